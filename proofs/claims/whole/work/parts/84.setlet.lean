/-! the reference's letters go on -/
theorem addz (x : Int32) : x + nI 0 = x := Int32.add_zero x
theorem adda (x : Int32) (a b : Nat) : x + nI a + nI b = x + nI (a + b) := by rw [Int32.add_assoc, nI_add]
theorem arrL_eq {μ : St} {j c b ld tl : Nat} (hj : j < 96) (hc : c < 8) (e26 : μ.1 26 0 j = nI c) (e28 : μ.1 28 0 j = nI ld) (htl : tl ≤ 3) (e29 : μ.1 29 0 j = nI tl) (hb : tl = 0 ∨ (b < 8 ∧ μ.1 23 0 c = nI b)) :
    ∃ μ2, f_X12_arriveLetter μ (nI j) = some μ2 ∧ (∀ a, a ≠ 0 → a ≠ 19 → a ≠ 20 → a ≠ 22 → μ2.1 a = μ.1 a) ∧ (∀ i, i ≠ 50 → μ2.1 0 0 i = μ.1 0 0 i) ∧ μ2.1 0 0 50 = μ.1 0 0 50 + nI ld ∧ (∀ e, μ2.1 20 0 e = μ.1 20 0 e + nI (if e = c then ld else 0)) ∧ (∀ e, μ2.1 22 0 e = μ.1 22 0 e + nI (if e = c then ld else 0)) ∧ (∀ e, μ2.1 19 0 e = μ.1 19 0 e + nI (if e = b then tl else 0)) := by
  have i1 : inb (nI c) 8 := inbL hc (by decide)
  have c1 : Int32.toNatClampNeg (nI c) = c := clL (by omega)
  have i2 : inb (nI j) 96 := inbL hj (by decide)
  have c2 : Int32.toNatClampNeg (nI j) = j := clL (by omega)
  have A : ∀ (a v : Nat) (e : Nat) (m : St), (si m a 0 c (m.1 a 0 c + nI v)).1 a 0 e = m.1 a 0 e + nI (if e = c then v else 0) := by
    intro a v e m
    by_cases ec : e = c
    · rw [ec, si_eq, if_pos rfl]
    · rw [si_j ec, if_neg ec, addz]
  by_cases ht : tl = 0
  · subst ht
    have n0 : ¬ 0 < nI 0 := by decide
    refine ⟨si (si (si μ 20 0 c (μ.1 20 0 c + nI ld)) 22 0 c (μ.1 22 0 c + nI ld)) 0 0 50 (μ.1 0 0 50 + nI ld), ?_, fun a a0 a19 a20 a22 => by rw [si_k a0, si_k a22, si_k a20], fun i hi => by rw [si_j hi, si_k (by decide), si_k (by decide)], si_eq, fun e => ?_, fun e => ?_, fun e => ?_⟩
    · simp (decide := true) only [f_X12_arriveLetter, chk, if_pos i2, c2, bnd, e26, if_pos i1, c1, e28, si_k, e29, if_neg n0, if_false]
    · rw [si_k (by decide), si_k (by decide)]; exact A 20 ld e μ
    · rw [si_k (by decide)]
      by_cases ec : e = c
      · rw [ec, si_eq, if_pos rfl]
      · rw [si_j ec, si_k (by decide), if_neg ec, addz]
    · rw [si_k (by decide), si_k (by decide), si_k (by decide)]
      split <;> exact (addz _).symm
  · obtain ⟨hb8, e23⟩ := hb.resolve_left ht
    have i3 : inb (nI b) 8 := inbL hb8 (by decide)
    have c3 : Int32.toNatClampNeg (nI b) = b := clL (by omega)
    have p0 : 0 < nI tl := nI_lt (a := 0) (by omega) (by omega)
    refine ⟨si (si (si (si μ 20 0 c (μ.1 20 0 c + nI ld)) 22 0 c (μ.1 22 0 c + nI ld)) 0 0 50 (μ.1 0 0 50 + nI ld)) 19 0 b (μ.1 19 0 b + nI tl), ?_, fun a a0 a19 a20 a22 => by rw [si_k a19, si_k a0, si_k a22, si_k a20], fun i hi => by rw [si_k (by decide), si_j hi, si_k (by decide), si_k (by decide)], by rw [si_k (by decide), si_eq], fun e => ?_, fun e => ?_, fun e => ?_⟩
    · simp (decide := true) only [f_X12_arriveLetter, chk, if_pos i2, c2, bnd, e26, if_pos i1, c1, e28, si_k, e29, if_pos p0, e23, if_pos i3, c3]
    · rw [si_k (by decide), si_k (by decide), si_k (by decide)]; exact A 20 ld e μ
    · rw [si_k (by decide), si_k (by decide)]
      by_cases ec : e = c
      · rw [ec, si_eq, if_pos rfl]
      · rw [si_j ec, si_k (by decide), if_neg ec, addz]
    · by_cases eb : e = b
      · rw [eb, si_eq, if_pos rfl]
      · rw [si_j eb, si_k (by decide), si_k (by decide), si_k (by decide), if_neg eb, addz]
/-- those that do not arrive -/
def stay (ar : Nat → Bool) (n : Nat) : List Nat := (List.range n).filter (fun j => !ar j)
theorem stay_s (ar : Nat → Bool) (n : Nat) : stay ar (n + 1) = if ar n then stay ar n else stay ar n ++ [n] := by
  unfold stay
  rw [List.range_succ, List.filter_append]
  cases h : ar n <;> simp [h]
theorem stay_le (ar : Nat → Bool) (n : Nat) : (stay ar n).length ≤ n := by
  unfold stay
  exact Nat.le_trans (List.length_filter_le _ _) (by simp)
theorem stay_mem {ar : Nat → Bool} {n j : Nat} : j ∈ stay ar n ↔ j < n ∧ ar j = false := by
  unfold stay
  simp
theorem stay_get {ar : Nat → Bool} {n i : Nat} (h : i < (stay ar n).length) : (stay ar n).getD i 0 < n ∧ ar ((stay ar n).getD i 0) = false := by
  have : (stay ar n).getD i 0 ∈ stay ar n := by
    rw [List.getD_eq_getElem?_getD, List.getElem?_eq_getElem h]
    exact List.getElem_mem h
  exact stay_mem.mp this
theorem stay_inj {ar : Nat → Bool} {n i j : Nat} (hi : i < (stay ar n).length) (hj : j < (stay ar n).length) (h : (stay ar n).getD i 0 = (stay ar n).getD j 0) : i = j := by
  have nd : (stay ar n).Nodup := List.Pairwise.filter _ List.nodup_range
  rw [List.getD_eq_getElem?_getD, List.getD_eq_getElem?_getD, List.getElem?_eq_getElem hi, List.getElem?_eq_getElem hj] at h
  have pw := List.pairwise_iff_getElem.mp nd
  rcases Nat.lt_trichotomy i j with z | z | z
  · exact absurd h (pw i j hi hj z)
  · exact z
  · exact absurd h.symm (pw j i hj hi z)
theorem stay_at {ar : Nat → Bool} {n j : Nat} (h : j < n) (ha : ar j = false) : ∃ i, i < (stay ar n).length ∧ (stay ar n).getD i 0 = j := by
  obtain ⟨i, hi, e⟩ := List.getElem_of_mem (stay_mem.mpr ⟨h, ha⟩)
  exact ⟨i, hi, by rw [List.getD_eq_getElem?_getD, List.getElem?_eq_getElem hi]; exact e⟩
theorem setLetters_eq {μ : St} {n T : Nat} {fo pl ld tl hp bk : Nat → Nat} {ar : Nat → Bool} (hn : n ≤ 72) (hT : T ≤ 30000) (en : μ.1 0 0 25 = nI n) (eT : μ.1 0 0 3 = nI T) (h26 : ∀ j, j < n → fo j < 8 ∧ μ.1 26 0 j = nI (fo j)) (h27 : ∀ j, j < n → pl j ≤ T ∧ pl j < 8 ∧ μ.1 27 0 j = nI (T - pl j)) (h28 : ∀ j, j < n → μ.1 28 0 j = nI (ld j)) (h29 : ∀ j, j < n → tl j ≤ 3 ∧ μ.1 29 0 j = nI (tl j)) (h15 : ∀ j, j < n → hp (fo j) ≤ 6 ∧ μ.1 15 0 (fo j) = nI (hp (fo j))) (h23 : ∀ j, j < n → tl j = 0 ∨ (bk (fo j) < 8 ∧ μ.1 23 0 (fo j) = nI (bk (fo j)))) (har : ∀ j, ar j = decide (pl j = hp (fo j) + 1)) :
    ∃ μ2, f_X12_setLetters μ = some μ2 ∧ (∀ a, a ≠ 0 → a ≠ 19 → a ≠ 20 → a ≠ 22 → (a < 26 ∨ 29 < a) → μ2.1 a = μ.1 a) ∧ (∀ i, i ≠ 25 → i ≠ 50 → μ2.1 0 0 i = μ.1 0 0 i) ∧ μ2.1 0 0 25 = nI (stay ar n).length ∧ μ2.1 0 0 50 = μ.1 0 0 50 + nI (sumN (fun j => if ar j then ld j else 0) n) ∧
      (∀ e, μ2.1 20 0 e = μ.1 20 0 e + nI (sumN (fun j => if ar j then (if e = fo j then ld j else 0) else 0) n)) ∧ (∀ e, μ2.1 22 0 e = μ.1 22 0 e + nI (sumN (fun j => if ar j then (if e = fo j then ld j else 0) else 0) n)) ∧ (∀ e, μ2.1 19 0 e = μ.1 19 0 e + nI (sumN (fun j => if ar j then (if e = bk (fo j) then tl j else 0) else 0) n)) ∧
      (∀ i, i < (stay ar n).length → ∀ a, 26 ≤ a → a ≤ 29 → μ2.1 a 0 i = μ.1 a 0 ((stay ar n).getD i 0)) := by
  have go : ∀ m k μ1 fu, k + m = n → m < fu → (∀ a, a ≠ 0 → a ≠ 19 → a ≠ 20 → a ≠ 22 → (a < 26 ∨ 29 < a) → μ1.1 a = μ.1 a) → (∀ i, i ≠ 50 → μ1.1 0 0 i = μ.1 0 0 i) → μ1.1 0 0 50 = μ.1 0 0 50 + nI (sumN (fun j => if ar j then ld j else 0) k) →
      (∀ e, μ1.1 20 0 e = μ.1 20 0 e + nI (sumN (fun j => if ar j then (if e = fo j then ld j else 0) else 0) k)) → (∀ e, μ1.1 22 0 e = μ.1 22 0 e + nI (sumN (fun j => if ar j then (if e = fo j then ld j else 0) else 0) k)) → (∀ e, μ1.1 19 0 e = μ.1 19 0 e + nI (sumN (fun j => if ar j then (if e = bk (fo j) then tl j else 0) else 0) k)) →
      (∀ i, i < (stay ar k).length → ∀ a, 26 ≤ a → a ≤ 29 → μ1.1 a 0 i = μ.1 a 0 ((stay ar k).getD i 0)) → (∀ i, k ≤ i → ∀ a, 26 ≤ a → a ≤ 29 → μ1.1 a 0 i = μ.1 a 0 i) →
      ∃ μ2, f_X12_setLetters_L4 fu μ1 (nI (stay ar k).length) (nI k) = some μ2 ∧ (∀ a, a ≠ 0 → a ≠ 19 → a ≠ 20 → a ≠ 22 → (a < 26 ∨ 29 < a) → μ2.1 a = μ.1 a) ∧ (∀ i, i ≠ 25 → i ≠ 50 → μ2.1 0 0 i = μ.1 0 0 i) ∧ μ2.1 0 0 25 = nI (stay ar n).length ∧ μ2.1 0 0 50 = μ.1 0 0 50 + nI (sumN (fun j => if ar j then ld j else 0) n) ∧
      (∀ e, μ2.1 20 0 e = μ.1 20 0 e + nI (sumN (fun j => if ar j then (if e = fo j then ld j else 0) else 0) n)) ∧ (∀ e, μ2.1 22 0 e = μ.1 22 0 e + nI (sumN (fun j => if ar j then (if e = fo j then ld j else 0) else 0) n)) ∧ (∀ e, μ2.1 19 0 e = μ.1 19 0 e + nI (sumN (fun j => if ar j then (if e = bk (fo j) then tl j else 0) else 0) n)) ∧
      (∀ i, i < (stay ar n).length → ∀ a, 26 ≤ a → a ≤ 29 → μ2.1 a 0 i = μ.1 a 0 ((stay ar n).getD i 0)) := by
    intro m
    induction m with
    | zero =>
      intro k μ1 fu h1 h2 k1 k2 k3 k4 k5 k6 k7 k8
      obtain ⟨fu, rfl⟩ : ∃ j, fu = j + 1 := ⟨fu - 1, by omega⟩
      have e : k = n := by omega
      subst e
      refine ⟨si μ1 0 0 25 (nI (stay ar k).length), ?_, fun a a0 a1 a2 a3 a4 => by rw [si_k a0]; exact k1 a a0 a1 a2 a3 a4, fun i i1 i2 => by rw [si_j i1]; exact k2 i i2, si_eq, by rw [si_j (by decide)]; exact k3, by rw [si_k (by decide)]; exact k4, by rw [si_k (by decide)]; exact k5, by rw [si_k (by decide)]; exact k6, fun i hi a a1 a2 => by rw [si_k (by omega)]; exact k7 i hi a a1 a2⟩
      show f_X12_setLetters_L4b (f_X12_setLetters_L4 fu) μ1 _ (nI k) = _
      unfold f_X12_setLetters_L4b
      rw [k2 25 (by decide), en, if_neg (nI_nlt (Nat.le_refl _) (by omega)), bnd_eq]
    | succ m ih =>
      intro k μ1 fu h1 h2 k1 k2 k3 k4 k5 k6 k7 k8
      obtain ⟨fu, rfl⟩ : ∃ j, fu = j + 1 := ⟨fu - 1, by omega⟩
      have hk : k < n := by omega
      obtain ⟨f8, e26⟩ := h26 k hk
      obtain ⟨p1, p8, e27⟩ := h27 k hk
      have e28 := h28 k hk
      obtain ⟨t3, e29⟩ := h29 k hk
      obtain ⟨hp6, e15⟩ := h15 k hk
      have sle := stay_le ar k
      have i1 : inb (nI k) 96 := inbL (by omega) (by decide)
      have c1 : Int32.toNatClampNeg (nI k) = k := clL (by omega)
      have i2 : inb (nI (fo k)) 8 := inbL f8 (by decide)
      have c2 : Int32.toNatClampNeg (nI (fo k)) = fo k := clL (by omega)
      have i3 : inb (nI (stay ar k).length) 96 := inbL (by omega) (by decide)
      have c3 : Int32.toNatClampNeg (nI (stay ar k).length) = (stay ar k).length := clL (by omega)
      have f26 : μ1.1 26 0 k = nI (fo k) := (k8 k (Nat.le_refl _) 26 (by omega) (by omega)).trans e26
      have f27 : μ1.1 27 0 k = nI (T - pl k) := (k8 k (Nat.le_refl _) 27 (by omega) (by omega)).trans e27
      have f28 : μ1.1 28 0 k = nI (ld k) := (k8 k (Nat.le_refl _) 28 (by omega) (by omega)).trans e28
      have f29 : μ1.1 29 0 k = nI (tl k) := (k8 k (Nat.le_refl _) 29 (by omega) (by omega)).trans e29
      have f15 : μ1.1 15 0 (fo k) = nI (hp (fo k)) := by rw [k1 15 (by decide) (by decide) (by decide) (by decide) (by decide)]; exact e15
      have fT : μ1.1 0 0 3 = nI T := (k2 3 (by decide)).trans eT
      have fn : μ1.1 0 0 25 = nI n := (k2 25 (by decide)).trans en
      have cnd : (nI T - nI (T - pl k) = nI (hp (fo k) + 1)) ↔ ar k = true := by
        rw [nI_sub (by omega), har, decide_eq_true_eq]
        constructor
        · intro z
          have := nI_inj (by omega) (by omega) z
          omega
        · intro z
          congr 1
          omega
      have hd : f_X12_setLetters_L4 (fu + 1) μ1 (nI (stay ar k).length) (nI k) = f_X12_setLetters_L4b (f_X12_setLetters_L4 fu) μ1 (nI (stay ar k).length) (nI k) := rfl
      rw [hd]
      have i4 := fun μ' => ih (k + 1) μ' fu (by omega) (by omega)
      generalize f_X12_setLetters_L4 fu = K at i4 ⊢
      have sm : ∀ f : Nat → Nat, sumN f (k + 1) = sumN f k + f k := fun _ => rfl
      cases ha : ar k
      · have nc : ¬ (nI T - nI (T - pl k) = nI (hp (fo k) + 1)) := fun z => by rw [cnd.mp z] at ha; cases ha
        have ss : stay ar (k + 1) = stay ar k ++ [k] := by rw [stay_s, ha]; rfl
        have sl : (stay ar (k + 1)).length = (stay ar k).length + 1 := by rw [ss]; simp
        have st : f_X12_setLetters_L4b K μ1 (nI (stay ar k).length) (nI k) = K (si (si (si (si μ1 26 0 (stay ar k).length (μ1.1 26 0 k)) 27 0 (stay ar k).length (μ1.1 27 0 k)) 28 0 (stay ar k).length (μ1.1 28 0 k)) 29 0 (stay ar k).length (μ1.1 29 0 k)) (nI (stay ar (k + 1)).length) (nI (k + 1)) := by
          rw [sl]
          simp (decide := true) only [f_X12_setLetters_L4b, fn, if_pos (nI_lt hk (show n < 2 ^ 31 by omega)), chk, if_pos i1, c1, f26, if_pos i2, c2, fT, f27, f15, if_neg nc, if_pos i3, c3, bnd, si_k, nI_1]
        rw [st]
        refine i4 _ (fun a a0 a1 a2 a3 a4 => ?_) (fun i hi => ?_) ?_ (fun e => ?_) (fun e => ?_) (fun e => ?_) (fun i hi a a1 a2 => ?_) (fun i hi a a1 a2 => ?_)
        · rw [si_k (by omega), si_k (by omega), si_k (by omega), si_k (by omega)]
          exact k1 a a0 a1 a2 a3 a4
        · rw [si_k (by decide), si_k (by decide), si_k (by decide), si_k (by decide)]
          exact k2 i hi
        · rw [si_k (by decide), si_k (by decide), si_k (by decide), si_k (by decide), sm, ha, if_neg (by decide), Nat.add_zero]
          exact k3
        · rw [si_k (by decide), si_k (by decide), si_k (by decide), si_k (by decide), sm, ha, if_neg (show ¬ false = true by decide), Nat.add_zero]
          exact k4 e
        · rw [si_k (by decide), si_k (by decide), si_k (by decide), si_k (by decide), sm, ha, if_neg (show ¬ false = true by decide), Nat.add_zero]
          exact k5 e
        · rw [si_k (by decide), si_k (by decide), si_k (by decide), si_k (by decide), sm, ha, if_neg (show ¬ false = true by decide), Nat.add_zero]
          exact k6 e
        · rw [sl] at hi
          rw [ss]
          by_cases q : i < (stay ar k).length
          · rw [getD_app1 q, si_j (by omega), si_j (by omega), si_j (by omega), si_j (by omega)]
            exact k7 i q a a1 a2
          · have e : i = (stay ar k).length := by omega
            subst e
            rw [getD_app2 (Nat.le_refl _), Nat.sub_self]
            show _ = μ.1 a 0 k
            rw [← k8 k (Nat.le_refl _) a a1 a2]
            have : a = 26 ∨ a = 27 ∨ a = 28 ∨ a = 29 := by omega
            rcases this with rfl | rfl | rfl | rfl
            all_goals simp (decide := true) only [si_k, si_eq]
        · rw [si_j (by omega), si_j (by omega), si_j (by omega), si_j (by omega)]
          exact k8 i (by omega) a a1 a2
      · have yc : nI T - nI (T - pl k) = nI (hp (fo k) + 1) := cnd.mpr ha
        have ss : stay ar (k + 1) = stay ar k := by rw [stay_s, ha]; rfl
        have b23 : tl k = 0 ∨ (bk (fo k) < 8 ∧ μ1.1 23 0 (fo k) = nI (bk (fo k))) := by
          rcases h23 k hk with z | z
          · exact Or.inl z
          · right
            rw [k1 23 (by decide) (by decide) (by decide) (by decide) (by decide)]
            exact z
        obtain ⟨μ2, g1, g2, g3, g4, g5, g6, g7⟩ := arrL_eq (μ := μ1) (j := k) (show k < 96 by omega) f8 f26 f28 t3 f29 b23
        have st : f_X12_setLetters_L4b K μ1 (nI (stay ar k).length) (nI k) = K μ2 (nI (stay ar (k + 1)).length) (nI (k + 1)) := by
          rw [ss]
          simp (decide := true) only [f_X12_setLetters_L4b, fn, if_pos (nI_lt hk (show n < 2 ^ 31 by omega)), chk, if_pos i1, c1, f26, if_pos i2, c2, fT, f27, f15, nI_1, if_pos yc, g1, Option.bind_some]
        rw [st]
        refine i4 _ (fun a a0 a1 a2 a3 a4 => ?_) (fun i hi => ?_) ?_ (fun e => ?_) (fun e => ?_) (fun e => ?_) (fun i hi a a1 a2 => ?_) (fun i hi a a1 a2 => ?_)
        · rw [g2 a a0 a1 a2 a3]
          exact k1 a a0 a1 a2 a3 a4
        · rw [g3 i hi]
          exact k2 i hi
        · rw [g4, k3, adda, sm, ha, if_pos rfl]
        · rw [g5 e, k4 e, adda, sm, ha, if_pos (show true = true from rfl)]
        · rw [g6 e, k5 e, adda, sm, ha, if_pos (show true = true from rfl)]
        · rw [g7 e, k6 e, adda, sm, ha, if_pos (show true = true from rfl)]
        · rw [ss] at hi ⊢
          rw [g2 a (by omega) (by omega) (by omega) (by omega)]
          exact k7 i hi a a1 a2
        · rw [g2 a (by omega) (by omega) (by omega) (by omega)]
          exact k8 i (by omega) a a1 a2
  exact go n 0 μ FU (by omega) (FU_lt (by omega)) (fun _ _ _ _ _ _ => rfl) (fun _ _ => rfl) (addz _).symm (fun _ => (addz _).symm) (fun _ => (addz _).symm) (fun _ => (addz _).symm) (fun i hi => absurd hi (by show ¬ i < 0; omega)) (fun _ _ _ _ _ => rfl)
