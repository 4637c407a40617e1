/-! ways: a row of ports as a number; the first way that has starts -/
def nxL (W H l : Nat) : Nat := nN (endV W H l)
def okL (W H : Nat) (br : Nat → Int32) (P : Nat → Bool) (l : Nat) : Bool := decide (endV W H l ≠ -2) && (decide (br l = 0) && !P (nxL W H l))
def addP (P : Nat → Bool) (x : Nat) : Nat → Bool := fun y => P y || decide (y = x)
def wayOk (W H : Nat) (br : Nat → Int32) : Nat → Nat → Nat → (Nat → Bool) → Option (Nat × List Nat)
  | 0, _, a, _ => some (a, [])
  | m + 1, r, a, P => if okL W H br P (6 * a + (2 + r / 4 ^ m)) then (wayOk W H br m (r % 4 ^ m) (nxL W H (6 * a + (2 + r / 4 ^ m))) (addP P (nxL W H (6 * a + (2 + r / 4 ^ m))))).map (fun z => (z.1, (6 * a + (2 + r / 4 ^ m)) :: z.2)) else none
def resW (W H : Nat) (br : Nat → Int32) (b : Nat) : Nat → Nat → (Nat → Bool) → (List Nat → Nat) → Option (Nat × List Nat)
  | 0, a, _, ts => if a = b ∧ ts [] ≠ 0 then some (ts [], []) else none
  | m + 1, a, P, ts => (List.range' 0 4).findSome? (fun q => if okL W H br P (6 * a + (2 + q)) then (resW W H br b m (nxL W H (6 * a + (2 + q))) (addP P (nxL W H (6 * a + (2 + q)))) (fun ls => ts ((6 * a + (2 + q)) :: ls))).map (fun z => (z.1, (6 * a + (2 + q)) :: z.2)) else none)
def metW (W H : Nat) (br : Nat → Int32) (b : Nat) : Nat → Nat → (Nat → Bool) → Bool
  | 0, a, _ => decide (a = b)
  | m + 1, a, P => (List.range' 0 4).any (fun q => okL W H br P (6 * a + (2 + q)) && metW W H br b m (nxL W H (6 * a + (2 + q))) (addP P (nxL W H (6 * a + (2 + q)))))
def endC (W H l : Nat) : Bool := decide (W * H ≤ l / 6) || (decide (l % 6 < 2) || (decide (endV W H l = -2) || (decide (nxL W H l < W * H) && decide (endV W H l = nI (nxL W H l)))))
set_option maxHeartbeats 2000000 in
theorem end_all : ∀ W, W < 4 → ∀ H, H < 4 → ∀ l, l < 54 → endC W H l = true := by decide +kernel
theorem end_in0 (W : Nat) (hW : W < 4) (H : Nat) (hH : H < 4) (l : Nat) (hl : l < 54) (h : l / 6 < W * H ∧ 2 ≤ l % 6) : endV W H l = -2 ∨ (nxL W H l < W * H ∧ endV W H l = nI (nxL W H l)) := by
  have := end_all W hW H hH l hl
  unfold endC at this
  rw [decide_eq_false (show ¬ W * H ≤ l / 6 by omega), decide_eq_false (show ¬ l % 6 < 2 by omega), Bool.false_or, Bool.false_or, Bool.or_eq_true, Bool.and_eq_true, decide_eq_true_eq, decide_eq_true_eq, decide_eq_true_eq] at this
  exact this
theorem end_in {W H S l : Nat} (hw : okWHS W H S) (hl : l < 54) (h1 : l / 6 < W * H) (h2 : 2 ≤ l % 6) : endV W H l = -2 ∨ (nxL W H l < W * H ∧ endV W H l = nI (nxL W H l)) := by
  exact end_in0 W hw.WH.1 H hw.WH.2.1 l hl ⟨h1, h2⟩
theorem nI_nm2 {a : Nat} (ha : a < 2 ^ 31) : ¬ nI a = -2 := by
  intro h
  have := congrArg Int32.toInt h
  rw [nI_toInt ha, show (-2 : Int32).toInt = -2 from by decide] at this
  omega
/-- nothing but the reference's working room differs -/
def Scr (μ' μ : St) : Prop := (∀ a, a ≠ 0 → a ≠ 46 → a ≠ 47 → μ'.1 a = μ.1 a) ∧ (∀ j, j ≠ 45 → μ'.1 0 0 j = μ.1 0 0 j)
theorem Scr.rf (μ : St) : Scr μ μ := ⟨fun _ _ _ _ => rfl, fun _ _ => rfl⟩
theorem Scr.tr {a b c : St} (h1 : Scr a b) (h2 : Scr b c) : Scr a c := ⟨fun x p q r => (h1.1 x p q r).trans (h2.1 x p q r), fun j hj => (h1.2 j hj).trans (h2.2 j hj)⟩
theorem Scr.s46 {μ' μ : St} (h : Scr μ' μ) {j : Nat} {v : Int32} : Scr (si μ' 46 0 j v) μ := ⟨fun x p q r => (si_k q).trans (h.1 x p q r), fun j hj => by rw [si_k (show 0 ≠ 46 by decide)]; exact h.2 j hj⟩
theorem Scr.s47 {μ' μ : St} (h : Scr μ' μ) {j : Nat} {v : Int32} : Scr (si μ' 47 0 j v) μ := ⟨fun x p q r => (si_k r).trans (h.1 x p q r), fun j hj => by rw [si_k (show 0 ≠ 47 by decide)]; exact h.2 j hj⟩
theorem Scr.s45 {μ' μ : St} (h : Scr μ' μ) {v : Int32} : Scr (si μ' 0 0 45 v) μ := ⟨fun x p q r => (si_k p).trans (h.1 x p q r), fun j hj => by rw [si_j hj]; exact h.2 j hj⟩
theorem ways_eq {n : Nat} (hn : n ≤ 6) : f_X12_ways (nI n) = some (nI (4 ^ n)) := by
  have go : ∀ m t fu, t + m = n → m < fu → f_X12_ways_L4 (nI n) fu (nI (4 ^ t)) (nI t) = some (nI (4 ^ n)) := by
    intro m
    induction m with
    | zero =>
      intro t fu h1 h2
      obtain ⟨fu, rfl⟩ : ∃ j, fu = j + 1 := ⟨fu - 1, by omega⟩
      have e : t = n := by omega
      subst e
      show f_X12_ways_L4b (nI t) (f_X12_ways_L4 (nI t) fu) (nI (4 ^ t)) (nI t) = _
      unfold f_X12_ways_L4b
      rw [if_neg (nI_nlt (Nat.le_refl _) (by omega))]
    | succ m ih =>
      intro t fu h1 h2
      obtain ⟨fu, rfl⟩ : ∃ j, fu = j + 1 := ⟨fu - 1, by omega⟩
      show f_X12_ways_L4b (nI n) (f_X12_ways_L4 (nI n) fu) (nI (4 ^ t)) (nI t) = _
      unfold f_X12_ways_L4b
      rw [if_pos (nI_lt (by omega) (by omega)), show (nI (4 ^ t) * 4 : Int32) = nI (4 ^ (t + 1)) from by rw [show (4 : Int32) = nI 4 from rfl, nI_mul, Nat.pow_succ], nI_1]
      exact ih (t + 1) fu (by omega) (by omega)
  exact go n 0 FU (by omega) (FU_lt (by omega))
theorem p46 {n : Nat} (hn : n ≤ 6) : 1 ≤ 4 ^ n ∧ 4 ^ n ≤ 4096 := ⟨Nat.one_le_pow _ _ (by decide), Nat.pow_le_pow_right (n := 4) (j := 6) (by decide) hn⟩
/-- a row of ports that has failed -/
theorem way_dead {b d fu : Nat} {R v5 : Int32} {v7 : Nat} (μ : St) (hd : d ≤ 6) (hf : 0 < fu) : ∃ μ', f_X12_isWay_L53 (nI b) (nI d) R fu μ v5 0 (nI v7) = some (μ', 0) ∧ Scr μ' μ := by
  obtain ⟨fu, rfl⟩ : ∃ j, fu = j + 1 := ⟨fu - 1, by omega⟩
  have e : nI d + 1 = nI (d + 1) := nI_1 d
  refine ⟨si (si μ 0 0 45 (nI d)) 46 0 (d + 1) (6 * nI b + 1), ?_, (Scr.rf μ).s45.s46⟩
  show f_X12_isWay_L53b (nI b) (nI d) R (f_X12_isWay_L53 (nI b) (nI d) R fu) μ v5 0 (nI v7) = _
  generalize f_X12_isWay_L53 (nI b) (nI d) R fu = K
  unfold f_X12_isWay_L53b chk
  have i1 : inb (nI (d + 1)) 8 := inbL (show d + 1 < 8 by omega) (by decide)
  by_cases q : nI v7 < nI d
  · rw [if_pos q, if_pos rfl, bnd_eq, e, if_pos i1, clL (by omega), bnd_eq, if_pos rfl]
  · rw [if_neg q, bnd_eq, e, if_pos i1, clL (by omega), bnd_eq, if_pos rfl]
theorem way_go {W H S d b R : Nat} {br : Nat → Int32} (hw : okWHS W H S) (hd : d ≤ 6) (hR : R < 4 ^ d) : ∀ m k a P μ fu, k + m = d → m < fu → a < W * H → μ.1 0 0 0 = nI W → μ.1 0 0 1 = nI H → (∀ l, l < 54 → μ.1 5 0 l = br l) → (∀ j, j < 9 → μ.1 47 0 j = bz (P j)) →
    (wayOk W H br m (R % 4 ^ m) a P = none ∧ ∃ μ', f_X12_isWay_L53 (nI b) (nI d) (nI R) fu μ (nI a) 1 (nI k) = some (μ', 0) ∧ Scr μ' μ) ∨
    (∃ e ls, e < W * H ∧ wayOk W H br m (R % 4 ^ m) a P = some (e, ls) ∧ ls.length = m ∧ ∃ μ', f_X12_isWay_L53 (nI b) (nI d) (nI R) fu μ (nI a) 1 (nI k) = some (μ', if nI e = nI b then 1 else 0) ∧ Scr μ' μ ∧ μ'.1 0 0 45 = nI d ∧ (∀ i, i ≤ k → μ'.1 46 0 i = μ.1 46 0 i) ∧ (∀ i, i < m → μ'.1 46 0 (k + 1 + i) = nI (ls.getD i 0) ∧ ls.getD i 0 < 54) ∧ μ'.1 46 0 (d + 1) = 6 * nI b + 1) := by
  have h9 := hw.WH.2.2
  have hR2 := (p46 hd).2
  intro m
  induction m with
  | zero =>
    intro k a P μ fu h1 h2 ha e0 e1 e5 e47
    obtain ⟨fu, rfl⟩ : ∃ j, fu = j + 1 := ⟨fu - 1, by omega⟩
    have e : nI d + 1 = nI (d + 1) := nI_1 d
    right
    refine ⟨a, [], ha, rfl, rfl, si (si μ 0 0 45 (nI d)) 46 0 (d + 1) (6 * nI b + 1), ?_, (Scr.rf μ).s45.s46, ?_, ?_, ?_, si_eq⟩
    · show f_X12_isWay_L53b (nI b) (nI d) (nI R) (f_X12_isWay_L53 (nI b) (nI d) (nI R) fu) μ (nI a) 1 (nI k) = _
      generalize f_X12_isWay_L53 (nI b) (nI d) (nI R) fu = K
      unfold f_X12_isWay_L53b chk
      rw [if_neg (nI_nlt (by omega) (by omega)), bnd_eq, e, if_pos (inbL (show d + 1 < 8 by omega) (by decide)), clL (by omega), bnd_eq, if_neg (by decide)]
      by_cases q : nI a = nI b
      · rw [if_pos q, if_pos q]
      · rw [if_neg q, if_neg q]
    · rw [si_k (by decide), si_eq]
    · intro i hi
      rw [si_j (by omega), si_k (by decide)]
    · intro i hi
      omega
  | succ m ih =>
    intro k a P μ fu h1 h2 ha e0 e1 e5 e47
    obtain ⟨fu, rfl⟩ : ∃ j, fu = j + 1 := ⟨fu - 1, by omega⟩
    have p4 := p46 (n := m) (by omega)
    have ed : R % 4 ^ (m + 1) / 4 ^ m = R / 4 ^ m % 4 := by rw [Nat.pow_succ, Nat.mod_mul_right_div_self]
    have em : R % 4 ^ (m + 1) % 4 ^ m = R % 4 ^ m := by rw [Nat.pow_succ, Nat.mod_mul_right_mod]
    have hq : R / 4 ^ m % 4 < 4 := Nat.mod_lt _ (by decide)
    have hdv : R / 4 ^ m < 2 ^ 31 := Nat.lt_of_le_of_lt (Nat.div_le_self _ _) (by omega)
    have eq : remI (nI R / nI (4 ^ m)) 4 = nI (R / 4 ^ m % 4) := by rw [nI_div (by omega) (by omega)]; exact nI_rem (b := 4) hdv (by decide)
    unfold wayOk
    rw [ed, em]
    generalize R / 4 ^ m % 4 = q at hq eq
    have hl : 6 * a + (2 + q) < 54 := by omega
    have l1 : (6 * a + (2 + q)) / 6 = a := by omega
    have l2 : (6 * a + (2 + q)) % 6 = 2 + q := by omega
    have lt := leads_at hw hl (by rw [l1]; exact ha)
    rw [l1, l2] at lt
    have ein := end_in hw hl (by rw [l1]; exact ha) (by rw [l2]; omega)
    have x1 : (6 : Int32) * nI a + (2 + nI q) = nI (6 * a + (2 + q)) := by rw [show (6 : Int32) = nI 6 from rfl, nI_mul, show (2 : Int32) + nI q = nI (2 + q) from nI_add 2 q, nI_add]
    have x2 : nI d - 1 - nI k = nI m := by
      rw [show nI d - 1 = nI (d - 1) from nI_sub (b := 1) (by omega), nI_sub (by omega)]
      congr 1
      omega
    have i1 : inb (nI (k + 1)) 8 := inbL (by omega) (by decide)
    have i2 : inb (nI a) 9 := inbL (by omega) (by decide)
    have c1 : Int32.toNatClampNeg (nI (k + 1)) = k + 1 := clL (by omega)
    have c2 : Int32.toNatClampNeg (nI a) = a := clL (by omega)
    have dead : ∀ v5, ∃ μ', f_X12_isWay_L53 (nI b) (nI d) (nI R) fu (si (si μ 46 0 (k + 1) (nI (6 * a + (2 + q)))) 47 0 a 1) v5 0 (nI (k + 1)) = some (μ', 0) ∧ Scr μ' μ := by
      intro v5
      obtain ⟨μ', g1, g2⟩ := way_dead (b := b) (R := nI R) (v5 := v5) (v7 := k + 1) (si (si μ 46 0 (k + 1) (nI (6 * a + (2 + q)))) 47 0 a 1) hd (show 0 < fu by omega)
      exact ⟨μ', g1, g2.tr (Scr.rf μ).s46.s47⟩
    have body : ∀ K : St → Int32 → Int32 → Int32 → Option (St × Int32), f_X12_isWay_L53b (nI b) (nI d) (nI R) K μ (nI a) 1 (nI k) = if okL W H br P (6 * a + (2 + q)) then K (si (si μ 46 0 (k + 1) (nI (6 * a + (2 + q)))) 47 0 (nxL W H (6 * a + (2 + q))) 1) (nI (nxL W H (6 * a + (2 + q)))) 1 (nI (k + 1)) else K (si (si μ 46 0 (k + 1) (nI (6 * a + (2 + q)))) 47 0 a 1) (nI a) 0 (nI (k + 1)) := by
      intro K
      unfold f_X12_isWay_L53b chk
      rw [if_pos (nI_lt (by omega) (by omega)), if_neg (by decide), x2, ways_eq (by omega), Option.bind_some, if_pos (nI_ne0 (by omega) (by omega)), eq, show (2 : Int32) + nI q = nI (2 + q) from nI_add 2 q, e0, e1, lt, Option.bind_some, nI_1, show (6 : Int32) * nI a + nI (2 + q) = nI (6 * a + (2 + q)) from by rw [← x1, show (2 : Int32) + nI q = nI (2 + q) from nI_add 2 q]]
      rcases ein with z | ⟨z1, z2⟩
      · have : okL W H br P (6 * a + (2 + q)) = false := by unfold okL; rw [decide_eq_false (fun y => y z)]; rfl
        rw [this, if_pos z, if_pos rfl, if_pos i1, c1, bnd_eq, if_pos i2, c2, bnd_eq, if_neg (show ¬ (false = true) by decide)]
      · have ne : ¬ endV W H (6 * a + (2 + q)) = -2 := by rw [z2]; exact nI_nm2 (by omega)
        rw [if_neg ne, z2, if_neg (nI_nm1 (by omega)), if_pos (inbL hl (by decide)), clL (by omega), e5 _ hl]
        unfold okL
        rw [decide_eq_true ne, Bool.true_and]
        by_cases y : br (6 * a + (2 + q)) = 0
        · rw [decide_eq_true y, Bool.true_and, if_pos y, if_pos (inbL (show nxL W H (6 * a + (2 + q)) < 9 by omega) (by decide)), clL (show nxL W H (6 * a + (2 + q)) < 2 ^ 31 by omega), e47 _ (by omega)]
          cases hP : P (nxL W H (6 * a + (2 + q)))
          · rw [if_pos (show bz false = 0 from rfl), if_pos i1, c1, bnd_eq, if_pos (inbL (show nxL W H (6 * a + (2 + q)) < 9 by omega) (by decide)), bnd_eq, if_pos (show (!false) = true from rfl)]
          · rw [if_neg (show ¬ bz true = 0 by decide), if_pos i1, c1, bnd_eq, if_pos i2, c2, bnd_eq, if_neg (show ¬ ((!true) = true) by decide)]
        · rw [decide_eq_false y, Bool.false_and, if_neg y, if_pos i1, c1, bnd_eq, if_pos i2, c2, bnd_eq, if_neg (show ¬ (false = true) by decide)]
    have bd := body (f_X12_isWay_L53 (nI b) (nI d) (nI R) fu)
    cases ho : okL W H br P (6 * a + (2 + q))
    · left
      rw [ho, if_neg (show ¬ (false = true) by decide)] at bd
      rw [if_neg (show ¬ (false = true) by decide)]
      obtain ⟨μ', g1, g2⟩ := dead (nI a)
      exact ⟨rfl, μ', bd.trans g1, g2⟩
    · rw [ho, if_pos rfl] at bd
      rw [if_pos rfl]
      have hx : nxL W H (6 * a + (2 + q)) < W * H := by
        rcases ein with z | ⟨z1, z2⟩
        · unfold okL at ho; rw [decide_eq_false (fun y => y z), Bool.false_and] at ho; exact absurd ho (by decide)
        · exact z1
      generalize nxL W H (6 * a + (2 + q)) = x at bd hx ⊢
      have i := ih (k + 1) x (addP P x) (si (si μ 46 0 (k + 1) (nI (6 * a + (2 + q)))) 47 0 x 1) fu (by omega) (by omega) hx (by rw [si_k (by decide), si_k (by decide)]; exact e0) (by rw [si_k (by decide), si_k (by decide)]; exact e1) (fun l hl => by rw [si_k (by decide), si_k (by decide)]; exact e5 l hl) (fun j hj => by
        unfold addP
        by_cases y : j = x
        · subst y; rw [si_eq, decide_eq_true rfl, Bool.or_true]; rfl
        · rw [si_j y, si_k (by decide), decide_eq_false y, Bool.or_false]; exact e47 j hj)
      rcases i with ⟨w, μ', g1, g2⟩ | ⟨e, ls, he, w, hls, μ', g1, g2, g3, g4, g5, g6⟩
      · left
        rw [w]
        exact ⟨rfl, μ', bd.trans g1, g2.tr (Scr.rf μ).s46.s47⟩
      · right
        rw [w]
        refine ⟨e, (6 * a + (2 + q)) :: ls, he, rfl, by rw [List.length_cons, hls], μ', bd.trans g1, g2.tr (Scr.rf μ).s46.s47, g3, fun i hi => ?_, fun i hi => ?_, g6⟩
        · rw [g4 i (by omega), si_k (by decide), si_j (by omega)]
        · cases i with
          | zero =>
            refine ⟨?_, hl⟩
            show μ'.1 46 0 (k + 1) = nI (6 * a + (2 + q))
            rw [g4 (k + 1) (Nat.le_refl _), si_k (by decide), si_eq]
          | succ i =>
            have := g5 i (by omega)
            rw [show k + 1 + (i + 1) = k + 1 + 1 + i by omega]
            exact this
