/-! the least starts; what a kind gets, on both sides -/
theorem nI_or (a b : Nat) : nI a ||| nI b = nI (a ||| b) := by
  apply Int32.toBitVec_inj.mp
  unfold nI
  rw [Int32.toBitVec_or, Int32.toBitVec_ofNat', Int32.toBitVec_ofNat', Int32.toBitVec_ofNat', BitVec.ofNat_or]
def drp : Nat → Nat → Nat
  | 0, x => x
  | n + 1, x => drp n (x &&& (x - 1))
def plK (fr : Nat) : Nat → Nat → Nat → Nat → Nat × Nat
  | 0, _, r, s => (s, r)
  | _ + 1, _, 0, s => (s, 0)
  | m + 1, t, r + 1, s => if fr.testBit t then plK fr m (t + 1) r (s + 2 ^ t) else plK fr m (t + 1) (r + 1) s
def plC (fr n : Nat) : Bool := match plK fr 10 0 n 0 with
  | (x, 0) => decide (nI fr &&& (nI (drp n fr) ^^^ (-1)) = nI x) && (decide (x &&& fr = x) && (decide (nb x = n) && decide (n ≤ nb fr)))
  | (_, _ + 1) => decide (nb fr < n)
set_option maxHeartbeats 4000000 in
set_option maxRecDepth 100000 in
theorem plC_all : ∀ fr, fr < 1024 → ∀ n, n < 5 → plC fr n = true := by decide +kernel
set_option maxHeartbeats 4000000 in
theorem pl_and : ∀ fr, fr < 1024 → ∀ t, t < 10 → fr &&& 2 ^ t = if fr.testBit t then 2 ^ t else 0 := by decide +kernel
set_option maxHeartbeats 4000000 in
theorem pl_or : ∀ t, t < 10 → ∀ s, s < 1024 → s < 2 ^ t → s ||| 2 ^ t = s + 2 ^ t ∧ nb (s + 2 ^ t) = nb s + 1 := by decide +kernel
theorem plK_tail {fr : Nat} : ∀ k t r s, (∀ u, t ≤ u → fr.testBit u = false) → plK fr k t r s = (s, r) := by
  intro k
  induction k with
  | zero => intro t r s h; rfl
  | succ k ih =>
    intro t r s h
    cases r with
    | zero => rfl
    | succ r =>
      show (if fr.testBit t then _ else plK fr k (t + 1) (r + 1) s) = _
      rw [h t (Nat.le_refl _), if_neg (by decide)]
      exact ih (t + 1) (r + 1) s (fun u hu => h u (by omega))
theorem plK_ext {fr k : Nat} : ∀ m t r s, (∀ u, t + m ≤ u → fr.testBit u = false) → plK fr (m + k) t r s = plK fr m t r s := by
  intro m
  induction m with
  | zero => intro t r s h; rw [Nat.zero_add]; exact plK_tail k t r s h
  | succ m ih =>
    intro t r s h
    rw [show m + 1 + k = m + k + 1 by omega]
    cases r with
    | zero => rfl
    | succ r =>
      show (if fr.testBit t then plK fr (m + k) (t + 1) r (s + 2 ^ t) else plK fr (m + k) (t + 1) (r + 1) s) = if fr.testBit t then plK fr m (t + 1) r (s + 2 ^ t) else plK fr m (t + 1) (r + 1) s
      rw [ih (t + 1) r _ (fun u hu => h u (by omega)), ih (t + 1) (r + 1) _ (fun u hu => h u (by omega))]
/-- the least starts: those, or too few are free -/
theorem pl_eq {S fr n : Nat} (hS : S ≤ 10) (hf : fr < 2 ^ S) (hn : n < 5) : (∃ x, plK fr S 0 n 0 = (x, 0) ∧ nI fr &&& (nI (drp n fr) ^^^ (-1)) = nI x ∧ x &&& fr = x ∧ nb x = n ∧ n ≤ nb fr) ∨ ∃ x r, plK fr S 0 n 0 = (x, r + 1) ∧ nb fr < n := by
  have p2 : 2 ^ S ≤ 1024 := Nat.pow_le_pow_right (n := 2) (by decide) hS
  have e : plK fr 10 0 n 0 = plK fr S 0 n 0 := by
    rw [show 10 = S + (10 - S) by omega]
    exact plK_ext S 0 n 0 (fun u hu => Nat.testBit_lt_two_pow (Nat.lt_of_lt_of_le hf (Nat.pow_le_pow_right (by decide) (by omega))))
  have := plC_all fr (by omega) n hn
  unfold plC at this
  rw [e] at this
  rcases hq : plK fr S 0 n 0 with ⟨x, r⟩
  rw [hq] at this
  cases r with
  | zero =>
    left
    have this : (decide (nI fr &&& (nI (drp n fr) ^^^ (-1)) = nI x) && (decide (x &&& fr = x) && (decide (nb x = n) && decide (n ≤ nb fr)))) = true := this
    rw [Bool.and_eq_true, Bool.and_eq_true, Bool.and_eq_true, decide_eq_true_eq, decide_eq_true_eq, decide_eq_true_eq, decide_eq_true_eq] at this
    exact ⟨x, rfl, this⟩
  | succ r =>
    right
    have this : decide (nb fr < n) = true := this
    rw [decide_eq_true_eq] at this
    exact ⟨x, r, rfl, this⟩
theorem least_eq {fr n : Nat} (hfr : fr < 1024) (hn : n < 5) : f_X7_least (nI fr) (nI n) = some (nI fr &&& (nI (drp n fr) ^^^ (-1))) := by
  have go : ∀ m t x fu, t + m = n → m < fu → x < 1024 → f_X7_least_L4 (nI fr) (nI n) fu (nI x) (nI t) = some (nI fr &&& (nI (drp m x) ^^^ (-1))) := by
    intro m
    induction m with
    | zero =>
      intro t x fu h1 h2 h3
      obtain ⟨fu, rfl⟩ : ∃ j, fu = j + 1 := ⟨fu - 1, by omega⟩
      show f_X7_least_L4b (nI fr) (nI n) (f_X7_least_L4 (nI fr) (nI n) fu) (nI x) (nI t) = _
      unfold f_X7_least_L4b
      rw [if_neg (nI_nlt (by omega) (by omega))]
      rfl
    | succ m ih =>
      intro t x fu h1 h2 h3
      obtain ⟨fu, rfl⟩ : ∃ j, fu = j + 1 := ⟨fu - 1, by omega⟩
      show f_X7_least_L4b (nI fr) (nI n) (f_X7_least_L4 (nI fr) (nI n) fu) (nI x) (nI t) = _
      unfold f_X7_least_L4b
      have e : nI x &&& (nI x - 1) = nI (x &&& (x - 1)) := by
        by_cases q : x = 0
        · subst q; decide
        · rw [show nI x - 1 = nI (x - 1) from nI_sub (b := 1) (by omega), nI_and]
      rw [if_pos (nI_lt (by omega) (by omega)), e, nI_1, ih (t + 1) _ fu (by omega) (by omega) (Nat.lt_of_le_of_lt Nat.and_le_left h3)]
      rfl
  exact go n 0 fr FU (by omega) (FU_lt (by omega)) hfr
theorem plain_eq {μ : St} {S fr n : Nat} (hS : 4 ≤ S ∧ S ≤ 10) (eS : μ.1 0 0 2 = nI S) (hfr : fr < 1024) (hn : n < 5) : f_X12_plainStarts μ (nI fr) (nI n) = some (if (plK fr S 0 n 0).2 = 0 then nI (plK fr S 0 n 0).1 else -1) := by
  have fin : ∀ s r, s < 1024 → nb s + r = n → ((f_X12_size (nI s)).bind fun r4 => if r4 = nI n then some (nI s) else some (-1)) = some (if r = 0 then nI s else -1) := by
    intro s r hs hr
    rw [size_eq hs, Option.bind_some]
    by_cases q : r = 0
    · rw [if_pos q, if_pos (by rw [← hr, q]; rfl)]
    · rw [if_neg q, if_neg (fun z => q (by have := nI_inj (by omega) (by omega) z; omega))]
  have go : ∀ m t s r fu, t + m = S → m < fu → s < 2 ^ t → nb s + r = n → f_X12_plainStarts_L5 μ (nI fr) (nI n) fu (nI s) (nI t) = some (if (plK fr m t r s).2 = 0 then nI (plK fr m t r s).1 else -1) := by
    intro m
    induction m with
    | zero =>
      intro t s r fu h1 h2 h3 h4
      obtain ⟨fu, rfl⟩ : ∃ j, fu = j + 1 := ⟨fu - 1, by omega⟩
      have pt : 2 ^ t ≤ 1024 := Nat.pow_le_pow_right (n := 2) (j := 10) (by decide) (by omega)
      show f_X12_plainStarts_L5b μ (nI fr) (nI n) (f_X12_plainStarts_L5 μ (nI fr) (nI n) fu) (nI s) (nI t) = _
      unfold f_X12_plainStarts_L5b
      rw [eS, if_neg (nI_nlt (by omega) (by omega))]
      exact fin s r (by omega) h4
    | succ m ih =>
      intro t s r fu h1 h2 h3 h4
      obtain ⟨fu, rfl⟩ : ∃ j, fu = j + 1 := ⟨fu - 1, by omega⟩
      have pt : 2 ^ t ≤ 1024 := Nat.pow_le_pow_right (n := 2) (j := 10) (by decide) (by omega)
      have ps : 2 ^ (t + 1) = 2 ^ t + 2 ^ t := by rw [Nat.pow_succ]; omega
      show f_X12_plainStarts_L5b μ (nI fr) (nI n) (f_X12_plainStarts_L5 μ (nI fr) (nI n) fu) (nI s) (nI t) = _
      generalize hK : f_X12_plainStarts_L5 μ (nI fr) (nI n) fu = K
      unfold f_X12_plainStarts_L5b
      rw [eS, if_pos (nI_lt (by omega) (by omega)), fin s r (by omega) h4, size_eq (by omega), Option.bind_some]
      cases r with
      | zero =>
        rw [if_neg (nI_nlt (by omega) (by omega))]
        rfl
      | succ r =>
        rw [if_pos (nI_lt (by omega) (by omega)), bnd_eq, shl_S t (by omega), nI_and, nI_or, nI_1, pl_and fr hfr t (by omega), ← hK]
        show _ = some (if (if fr.testBit t then plK fr m (t + 1) r (s + 2 ^ t) else plK fr m (t + 1) (r + 1) s).2 = 0 then nI (if fr.testBit t then plK fr m (t + 1) r (s + 2 ^ t) else plK fr m (t + 1) (r + 1) s).1 else -1)
        obtain ⟨o1, o2⟩ := pl_or t (by omega) s (by omega) h3
        cases fr.testBit t
        · rw [if_neg (show ¬ (false = true) by decide), if_neg (show ¬ (false = true) by decide), Nat.or_zero]
          exact ih (t + 1) s (r + 1) fu (by omega) (by omega) (by omega) h4
        · rw [if_pos (show true = true from rfl), if_pos (show true = true from rfl), o1]
          exact ih (t + 1) (s + 2 ^ t) r fu (by omega) (by omega) (by omega) (by omega)
  exact go S 0 0 n FU (by omega) (FU_lt (by omega)) (by decide) (by rw [show nb 0 = 0 from by decide, Nat.zero_add])
theorem nb_mono {x fr : Nat} (h : x &&& fr = x) : nb x ≤ nb fr := by
  have : ∀ j, popc x j ≤ popc fr j := by
    intro j
    induction j with
    | zero => exact Nat.le_refl _
    | succ j ih =>
      show popc x j + (if x.testBit j then 1 else 0) ≤ popc fr j + (if fr.testBit j then 1 else 0)
      have e : x.testBit j = (x.testBit j && fr.testBit j) := by rw [← Nat.testBit_and, h]
      cases h1 : x.testBit j <;> cases h2 : fr.testBit j
      · simp; exact ih
      · simp; omega
      · rw [h1, h2] at e; exact absurd e (by decide)
      · simp; exact ih
  exact this 10
/-- what a kind gets out of the free starts: x, 0 if there is nothing -/
theorem choose_both {μ : St} {S fr n kd : Nat} (hS : 4 ≤ S ∧ S ≤ 10) (eS : μ.1 0 0 2 = nI S) (hfr : fr < 2 ^ S) (hn : 1 ≤ n ∧ n ≤ 4) (hk : kd ≤ 4) : ∃ x, x < 2 ^ S ∧ f_X7_choose (nI kd) (nI fr) (nI n) (nI S) = some (nI x) ∧ f_X12_startsFor μ (nI kd) (nI n) (nI fr) = some (if x = 0 then -1 else nI x) ∧ (x ≠ 0 → x &&& fr = x ∧ nb x = n) := by
  have p2 : 2 ^ S ≤ 1024 := Nat.pow_le_pow_right (n := 2) (by decide) hS.2
  have hfr2 : fr < 1024 := by omega
  have nbl : nb fr < 100 := by
    unfold nb
    have : ∀ j, popc fr j ≤ j := by
      intro j
      induction j with
      | zero => exact Nat.le_refl _
      | succ j ih => show popc fr j + (if fr.testBit j then 1 else 0) ≤ j + 1; split <;> omega
    have := this 10
    omega
  have ch : ∀ r, f_X7_choose (nI kd) (nI fr) (nI n) (nI S) = r ↔ (if nb fr < n then some 0 else if kd = 1 ∨ kd = 2 then f_X7_evenest (nI fr) (nI n) (nI S) else if kd = 3 then f_X7_firstRun (nI fr) (nI n) (nI S) else f_X7_least (nI fr) (nI n)) = r := by
    intro r
    have e : f_X7_choose (nI kd) (nI fr) (nI n) (nI S) = (if nb fr < n then some 0 else if kd = 1 ∨ kd = 2 then f_X7_evenest (nI fr) (nI n) (nI S) else if kd = 3 then f_X7_firstRun (nI fr) (nI n) (nI S) else f_X7_least (nI fr) (nI n)) := by
      unfold f_X7_choose
      rw [if_pos (leL 1 1 rfl hn.1 (by omega)), bitc_eq fr hfr2, Option.bind_some]
      simp only [Option.bind_fun_some]
      by_cases q : nb fr < n
      · rw [if_pos (nI_lt q (by omega)), if_pos q]
      · rw [if_neg (nI_nlt (by omega) (by omega)), if_neg q]
        by_cases k1 : kd = 1
        · subst k1; rw [if_pos (show nI 1 = 1 from rfl), if_pos (Or.inl rfl)]
        · rw [if_neg (neL 1 1 rfl k1 (by omega) (by decide))]
          by_cases k2 : kd = 2
          · subst k2; rw [if_pos (show nI 2 = 2 from rfl), if_pos (Or.inr rfl)]
          · rw [if_neg (neL 2 2 rfl k2 (by omega) (by decide)), if_neg (show ¬ (kd = 1 ∨ kd = 2) by omega)]
            by_cases k3 : kd = 3
            · subst k3; rw [if_pos (show nI 3 = 3 from rfl), if_pos rfl]
            · rw [if_neg (neL 3 3 rfl k3 (by omega) (by decide)), if_neg k3]
    rw [e]
  have sf : f_X12_startsFor μ (nI kd) (nI n) (nI fr) = (if kd = 1 ∨ kd = 2 then f_X12_spreadStarts μ (nI fr) (nI n) else if kd = 3 then f_X12_burstStarts μ (nI fr) (nI n) else f_X12_plainStarts μ (nI fr) (nI n)) := by
    unfold f_X12_startsFor
    simp only [Option.bind_fun_some]
    by_cases k1 : kd = 1
    · subst k1; rw [if_pos (show nI 1 = 1 from rfl), if_pos (Or.inl rfl)]
    · rw [if_neg (neL 1 1 rfl k1 (by omega) (by decide))]
      by_cases k2 : kd = 2
      · subst k2; rw [if_pos (show nI 2 = 2 from rfl), if_pos (Or.inr rfl)]
      · rw [if_neg (neL 2 2 rfl k2 (by omega) (by decide)), if_neg (show ¬ (kd = 1 ∨ kd = 2) by omega)]
        by_cases k3 : kd = 3
        · subst k3; rw [if_pos (show nI 3 = 3 from rfl), if_pos rfl]
        · rw [if_neg (neL 3 3 rfl k3 (by omega) (by decide)), if_neg k3]
  have p1 : 0 < 2 ^ S := Nat.two_pow_pos S
  by_cases q : nb fr < n
  · refine ⟨0, p1, by rw [ch, if_pos q]; rfl, ?_, fun z => absurd rfl z⟩
    rw [sf, if_pos rfl]
    by_cases k1 : kd = 1 ∨ kd = 2
    · rw [if_pos k1]
      obtain ⟨o, o1, -, o3⟩ := spread_both (μ := μ) hS eS hfr (show n < 100 by omega)
      rw [o3]
      rcases o with _ | p
      · rfl
      · obtain ⟨-, -, -, -, a, b⟩ := o1 p rfl
        have := nb_mono a
        omega
    · rw [if_neg k1]
      by_cases k3 : kd = 3
      · rw [if_pos k3]
        rcases burst_both (μ := μ) (fr := fr) hS eS hn.1 hn.2 with ⟨-, b⟩ | ⟨v, hv, -, b, d⟩
        · exact b
        · obtain ⟨g1, g2⟩ := bu_nb S (by omega) n (by omega) v (by omega) ⟨hS.1, hv⟩
          rw [nI_and] at d
          have d2 : bu S n v &&& fr = bu S n v := nI_inj (Nat.lt_of_le_of_lt Nat.and_le_left (by omega)) (by omega) d
          have := nb_mono d2
          omega
      · rw [if_neg k3, plain_eq hS eS hfr2 (by omega)]
        rcases pl_eq (n := n) hS.2 hfr (by omega) with ⟨x, -, -, -, -, z⟩ | ⟨x, r, z, -⟩
        · omega
        · rw [z]; rfl
  · by_cases k1 : kd = 1 ∨ kd = 2
    · obtain ⟨o, o1, o2, o3⟩ := spread_both (μ := μ) hS eS hfr (show n < 100 by omega)
      rcases o with _ | p
      · refine ⟨0, p1, by rw [ch, if_neg q, if_pos k1, o2]; rfl, by rw [sf, if_pos k1, o3, if_pos rfl]; rfl, fun z => absurd rfl z⟩
      · obtain ⟨a1, a2, -, -, a, b⟩ := o1 p rfl
        refine ⟨p.1, a2, by rw [ch, if_neg q, if_pos k1, o2]; rfl, by rw [sf, if_pos k1, o3, if_neg (by omega)]; rfl, fun _ => ⟨a, b⟩⟩
    · by_cases k3 : kd = 3
      · rcases burst_both (μ := μ) (fr := fr) hS eS hn.1 hn.2 with ⟨a, b⟩ | ⟨v, hv, a, b, d⟩
        · exact ⟨0, p1, by rw [ch, if_neg q, if_neg k1, if_pos k3, a]; rfl, by rw [sf, if_neg k1, if_pos k3, b, if_pos rfl], fun z => absurd rfl z⟩
        · obtain ⟨g1, g2⟩ := bu_nb S (by omega) n (by omega) v (by omega) ⟨hS.1, hv⟩
          rw [nI_and] at d
          have d2 : bu S n v &&& fr = bu S n v := nI_inj (Nat.lt_of_le_of_lt Nat.and_le_left (by omega)) (by omega) d
          have ne : bu S n v ≠ 0 := fun z => by rw [z] at g1; rw [show nb 0 = 0 from by decide] at g1; omega
          exact ⟨bu S n v, g2, by rw [ch, if_neg q, if_neg k1, if_pos k3, a], by rw [sf, if_neg k1, if_pos k3, b, if_neg ne], fun _ => ⟨d2, g1⟩⟩
      · rcases pl_eq (n := n) hS.2 hfr (by omega) with ⟨x, z, g2, g1, g3, -⟩ | ⟨x, r, -, z⟩
        · have lt : x < 2 ^ S := by rw [← g1]; exact Nat.lt_of_le_of_lt Nat.and_le_right hfr
          have ne : x ≠ 0 := fun z => by rw [z] at g3; rw [show nb 0 = 0 from by decide] at g3; omega
          exact ⟨x, lt, by rw [ch, if_neg q, if_neg k1, if_neg k3, least_eq hfr2 (by omega), g2], by rw [sf, if_neg k1, if_neg k3, plain_eq hS eS hfr2 (by omega), z, if_neg ne]; rfl, fun _ => ⟨g1, g3⟩⟩
        · exact absurd z q
