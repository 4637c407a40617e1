/-! in the midst of a cycle: the circuits below t have sent -/
def RLm (t S T : Nat) (σ μ : St) : Prop := ∃ n, n ≤ 64 + t ∧ μ.1 0 0 25 = nI n ∧
  (∀ k, k < n → ∃ c p v, c < 8 ∧ live μ c ∧ (1 ≤ p ∨ c < t) ∧ p < hpN μ c + 2 ∧ letM T μ k c p v ∧ σ.1 18 c p = v ∧ isZ (μ.1 28 0 k) ∧ bd (μ.1 29 0 k) 0 3 ∧ (μ.1 29 0 k = 0 ∨ μ.1 23 0 c ≠ -1) ∧ (stN μ c).testBit ((T - p) % S) = true) ∧
  (∀ k j, k < n → j < n → μ.1 26 0 k = μ.1 26 0 j → μ.1 27 0 k = μ.1 27 0 j → k = j) ∧
  (∀ c p, c < 8 → p < 8 → live μ c → ¬ σ.1 18 c p = -1 → ∃ k, k < n ∧ letM T μ k c p (σ.1 18 c p))
def RelM (t W H S T k : Nat) (σ μ : St) : Prop := okWHS W H S ∧ T ≤ 40 * k ∧ RPg σ μ ∧ RGr W H S T σ μ ∧ RCi W H S T k σ μ ∧ ROw S σ μ ∧ RLm t S T σ μ ∧ RSt W H T σ μ ∧ RAr σ μ ∧ R10 σ μ
theorem RelP.mid {W H S T k : Nat} {σ μ : St} (h : RelP W H S T k σ μ) : RelM 0 W H S T k σ μ := by
  obtain ⟨h1, h2, h3, h4, h5, h6, ⟨n, g1, g2, g3, g4, g5⟩, h8⟩ := h
  refine ⟨h1, h2, h3, h4, h5, h6, ⟨n, by omega, g2, fun j hj => ?_, g4, g5⟩, h8⟩
  obtain ⟨c, p, v, q1, q2, q3, q4⟩ := g3 j hj
  exact ⟨c, p, v, q1, q2, Or.inl q3, q4⟩
theorem RelM.up {t W H S T k : Nat} {σ μ : St} (h : RelM t W H S T k σ μ) : RelM (t + 1) W H S T k σ μ := by
  obtain ⟨h1, h2, h3, h4, h5, h6, ⟨n, g1, g2, g3, g4, g5⟩, h8⟩ := h
  refine ⟨h1, h2, h3, h4, h5, h6, ⟨n, by omega, g2, fun j hj => ?_, g4, g5⟩, h8⟩
  obtain ⟨c, p, v, q1, q2, q3, q4⟩ := g3 j hj
  exact ⟨c, p, v, q1, q2, by omega, q4⟩
/-- without the letters it is the relation between calls -/
def z18 (σ : St) : St := (fun a b c => if a = 18 then -1 else σ.1 a b c, σ.2)
theorem z18_k {σ : St} {a : Nat} (h : a ≠ 18) : (z18 σ).1 a = σ.1 a := by
  funext b c
  show (if a = 18 then -1 else σ.1 a b c) = _
  rw [if_neg h]
theorem RelM.rel {t W H S T k : Nat} {σ μ : St} (h : RelM t W H S T k σ μ) : RelP W H S T k (z18 σ) (si μ 0 0 25 0) := by
  obtain ⟨h1, h2, h3, h4, h5, h6, -, h8, h9, h10⟩ := h
  have ma : ∀ a, a ≠ 0 → (si μ 0 0 25 0).1 a = μ.1 a := fun a ha => si_k ha
  have m9 : MA (si μ 0 0 25 0) μ 9 24 := fun a b c => ma a (by omega)
  refine ⟨h1, h2, h3.cg (by rw [z18_k (by decide)]) (z18_k (by decide)) (si_j (by decide)) (ma 8 (by decide)), h4.cg (by rw [z18_k (by decide)]) (z18_k (by decide)) (by rw [z18_k (by decide)]) (z18_k (by decide)) (z18_k (by decide)) (fun j hj => si_j (by omega)) (fun a b c => ma a (by omega)), ?_, h6.cg (z18_k (by decide)) (m9.w (by omega) (by omega)), ⟨0, by omega, si_eq, fun j hj => by omega, fun i j hi => by omega, fun c p _ _ _ hv => absurd rfl hv⟩, h8.cg (by rw [z18_k (by decide)]) (z18_k (by decide)) rfl (fun a b c => ma a (by omega)) (si_j (by decide)), h9.cg (z18_k (by decide)) (fun a b c => ma a (by omega)), by unfold R10 at h10 ⊢; rw [z18_k (by decide), z18_k (by decide), si_j (by decide)]; exact h10⟩
  intro c hc
  obtain ⟨g1, g2, g3, g4⟩ := h5 c hc
  refine ⟨by rw [z18_k (by decide)]; exact g1, by rw [ma 9 (by decide)]; exact g2, by rw [z18_k (by decide), ma 9 (by decide)]; exact g3, fun hl => ?_⟩
  rw [live.cg (m9.w (by omega) (by omega))] at hl
  obtain ⟨q1, q2, q3⟩ := g4 hl
  refine ⟨?_, q2.cg m9, q3⟩
  unfold REq at q1 ⊢
  rw [z18_k (by decide), z18_k (by decide), hpN.cg (m9.w (by omega) (by omega)), m9 10 (by omega) (by omega), m9 11 (by omega) (by omega), m9 12 (by omega) (by omega), m9 13 (by omega) (by omega), m9 14 (by omega) (by omega), m9 15 (by omega) (by omega), m9 16 (by omega) (by omega), m9 17 (by omega) (by omega), m9 18 (by omega) (by omega), m9 19 (by omega) (by omega), m9 20 (by omega) (by omega), m9 21 (by omega) (by omega), m9 22 (by omega) (by omega), m9 23 (by omega) (by omega), m9 24 (by omega) (by omega)]
  obtain ⟨a1, a2, a3, a4, a5, a6, a7, a8, a9, a10, a11, a12, a13, a14, a15, -⟩ := q1
  exact ⟨a1, a2, a3, a4, a5, a6, a7, a8, a9, a10, a11, a12, a13, a14, a15, fun p _ _ => rfl⟩
theorem RelM.of_live {t W H S T k c : Nat} {σ μ : St} (h : RelM t W H S T k σ μ) (hc : c < 8) (hl : live μ c) : REq σ μ c ∧ MOK W H S T k μ c ∧ 0 < S := (h.2.2.2.2.1 c hc).2.2.2 hl
theorem RelM.find_n {t W H S T k : Nat} {σ μ : St} (h : RelM t W H S T k σ μ) {c : Nat} (hc : c < 8) : f_X3_find σ (nI c) = some (if μ.1 9 0 c = 0 then none else some c) := by
  have := h.rel.find_n hc
  rw [si_k (by decide)] at this
  exact this
theorem RelM.hops {t W H S T k : Nat} {σ μ : St} (h : RelM t W H S T k σ μ) {c : Nat} (hc : c < 8) (hl : live μ c) : ∃ hp, 1 ≤ hp ∧ hp ≤ 6 ∧ μ.1 15 0 c = nI hp ∧ σ.1 2 c 6 = nI hp ∧ hpN μ c = hp := by
  obtain ⟨q, o, hS⟩ := h.of_live hc hl
  obtain ⟨hp, h1, h2, e⟩ := o.2.2.2.1
  exact ⟨hp, h1, h2, e, q.2.2.2.2.2.1.trans e, by unfold hpN nN; rw [e, clL (by omega)]⟩
theorem RelM.starts {t W H S T k : Nat} {σ μ : St} (h : RelM t W H S T k σ μ) {c : Nat} (hc : c < 8) (hl : live μ c) : ∃ st, st < 1024 ∧ μ.1 17 0 c = nI st ∧ σ.1 2 c 15 = nI st ∧ stN μ c = st ∧ 4 ≤ S ∧ S ≤ 10 := by
  obtain ⟨q, o, hS⟩ := h.of_live hc hl
  obtain ⟨st, h1, h2, e⟩ := o.2.2.2.2.1
  have h10 := h.1.S10
  have hlt := st_lt h10 h2
  refine ⟨st, hlt, e, q.2.2.2.2.2.2.1.trans e, by unfold stN nN; rw [e, clL (by omega)], ?_, h10⟩
  rcases h.1 with ⟨-, -, z⟩ | ⟨-, -, z, -⟩ <;> omega
/-- a letter more in the reference -/
def addL (μ : St) (n c : Nat) (t g y : Int32) : St := si (si (si (si (si μ 26 0 n (nI c)) 27 0 n t) 28 0 n g) 29 0 n y) 0 0 25 (nI (n + 1))
theorem addL_k {μ : St} {n c : Nat} {t g y : Int32} {a : Nat} (h : a ≠ 0) (h2 : a < 26 ∨ 29 < a) : (addL μ n c t g y).1 a = μ.1 a := by
  unfold addL
  rw [si_k h, si_k (by omega), si_k (by omega), si_k (by omega), si_k (by omega)]
theorem addL_0 {μ : St} {n c : Nat} {t g y : Int32} {j : Nat} (h : j ≠ 25) : (addL μ n c t g y).1 0 0 j = μ.1 0 0 j := by
  unfold addL
  rw [si_j h, si_k (by decide), si_k (by decide), si_k (by decide), si_k (by decide)]
theorem addL_j {μ : St} {n c : Nat} {t g y : Int32} {a j : Nat} (ha : a ≠ 0) (h : j ≠ n) : (addL μ n c t g y).1 a 0 j = μ.1 a 0 j := by
  unfold addL
  rw [si_k ha, si_j h, si_j h, si_j h, si_j h]
theorem addL_n {μ : St} {n c : Nat} {t g y : Int32} : (addL μ n c t g y).1 26 0 n = nI c ∧ (addL μ n c t g y).1 27 0 n = t ∧ (addL μ n c t g y).1 28 0 n = g ∧ (addL μ n c t g y).1 29 0 n = y ∧ (addL μ n c t g y).1 0 0 25 = nI (n + 1) := by
  unfold addL
  refine ⟨?_, ?_, ?_, ?_, si_eq⟩
  all_goals simp (decide := true) only [si_k, si_eq]
theorem send_rel {W H S T k c n g y : Nat} {σ μ σ2 μ1 : St} (h : RelM c W H S T k σ μ) (hk : k ≤ 513) (hc : c < 8) (hl : live μ c) (en : μ.1 0 0 25 = nI n) (hn : n ≤ 64 + c)
    (xk : ∀ a, a ≠ 2 → a ≠ 18 → σ2.1 a = σ.1 a) (xl : σ2.2 = σ.2) (x2 : ∀ e j, j ≠ 10 → ¬ (e = c ∧ (j = 8 ∨ j = 11)) → σ2.1 2 e j = σ.1 2 e j) (x8 : σ2.1 2 c 8 = μ1.1 18 0 c) (x11 : σ2.1 2 c 11 = μ1.1 19 0 c) (x10 : ∀ e, e < 8 → live μ e → σ2.1 2 e 10 = μ1.1 21 0 e)
    (x18 : ∀ e p, ¬ (e = c ∧ p = 0) → σ2.1 18 e p = σ.1 18 e p) (x18c : σ2.1 18 c 0 = 2 * nI y + nI g) (mk : ∀ a, a ≠ 18 → a ≠ 19 → a ≠ 21 → μ1.1 a = μ.1 a) (m18 : ∀ e, e ≠ c → μ1.1 18 0 e = μ.1 18 0 e ∧ μ1.1 19 0 e = μ.1 19 0 e)
    (b18 : bd (μ1.1 18 0 c) 0 99) (b21 : ∀ e, e < 8 → live μ e → bd (μ1.1 21 0 e) 0 (99 * k)) (hg : g ≤ 1) (hy : y ≤ 3) (hb : y = 0 ∨ μ.1 23 0 c ≠ -1) (hbit : (stN μ c).testBit (T % S) = true) : RelM (c + 1) W H S T k σ2 (addL μ1 n c (nI T) (nI g) (nI y)) := by
  obtain ⟨a26, a27, a28, a29, a25⟩ := addL_n (μ := μ1) (n := n) (c := c) (t := nI T) (g := nI g) (y := nI y)
  have mm : ∀ a, a ≠ 0 → a ≠ 18 → a ≠ 19 → a ≠ 21 → (a < 26 ∨ 29 < a) → (addL μ1 n c (nI T) (nI g) (nI y)).1 a = μ.1 a := fun a a0 a1 a2 a3 a4 => (addL_k a0 a4).trans (mk a a1 a2 a3)
  have m0 : ∀ j, j ≠ 25 → (addL μ1 n c (nI T) (nI g) (nI y)).1 0 0 j = μ.1 0 0 j := fun j hj => (addL_0 hj).trans (by rw [mk 0 (by decide) (by decide) (by decide)])
  have ml : ∀ a j, 26 ≤ a → a ≤ 29 → j ≠ n → (addL μ1 n c (nI T) (nI g) (nI y)).1 a 0 j = μ.1 a 0 j := fun a j a1 a2 hj => (addL_j (by omega) hj).trans (by rw [mk a (by omega) (by omega) (by omega)])
  have k18 : (addL μ1 n c (nI T) (nI g) (nI y)).1 18 = μ1.1 18 := addL_k (by decide) (by decide)
  have k19 : (addL μ1 n c (nI T) (nI g) (nI y)).1 19 = μ1.1 19 := addL_k (by decide) (by decide)
  have k21 : (addL μ1 n c (nI T) (nI g) (nI y)).1 21 = μ1.1 21 := addL_k (by decide) (by decide)
  generalize addL μ1 n c (nI T) (nI g) (nI y) = μ2 at *
  have m9 : MA μ2 μ 9 17 := fun a h1 h2 => mm a (by omega) (by omega) (by omega) (by omega) (by omega)
  have h6 : ∀ e, e < 8 → live μ e → hpN μ e ≤ 6 ∧ 1 ≤ hpN μ e := fun e he hl => by
    obtain ⟨hp, g1, g2, -, -, g5⟩ := h.hops he hl
    omega
  obtain ⟨g1, g2, g3, g4, g5, g6, g7, g8, g9, g10⟩ := h
  have hT : T ≤ 20520 := by omega
  refine ⟨g1, g2, g3.cg (by rw [xk 5 (by decide) (by decide)]) (xk 12 (by decide) (by decide)) (m0 7 (by decide)) (mm 8 (by decide) (by decide) (by decide) (by decide) (by decide)), g4.cg (by rw [xk 4 (by decide) (by decide)]) (xk 1 (by decide) (by decide)) (by rw [xk 11 (by decide) (by decide)]) (xk 14 (by decide) (by decide)) (xk 15 (by decide) (by decide)) (fun j hj => m0 j (by omega)) (fun a h1 h2 => mm a (by omega) (by omega) (by omega) (by omega) (by omega)), ?_, g6.cg (xk 16 (by decide) (by decide)) m9, ?_, g8.cg (by rw [xk 8 (by decide) (by decide)]) (xk 7 (by decide) (by decide)) (by rw [xl]) (fun a h1 h2 => mm a (by omega) (by omega) (by omega) (by omega) (by omega)) (m0 30 (by decide)), g9.cg (xk 0 (by decide) (by decide)) (fun a h1 h2 => mm a (by omega) (by omega) (by omega) (by omega) (by omega)), by unfold R10 at g10 ⊢; rw [xk 10 (by decide) (by decide), xk 20 (by decide) (by decide), m0 4 (by decide)]; exact g10⟩
  · intro e he
    obtain ⟨h1, h2, h3, h4⟩ := g5 e he
    refine ⟨by rw [x2 e 0 (by decide) (by omega)]; exact h1, by rw [m9 9 (by omega) (by omega)]; exact h2, by rw [x2 e 1 (by decide) (by omega), m9 9 (by omega) (by omega)]; exact h3, fun hle => ?_⟩
    rw [live.cg m9] at hle
    obtain ⟨q1, q2, q3⟩ := h4 hle
    refine ⟨?_, ?_, q3⟩
    · unfold REq at q1 ⊢
      rw [hpN.cg m9, m9 10 (by omega) (by omega), m9 11 (by omega) (by omega), m9 12 (by omega) (by omega), m9 13 (by omega) (by omega), m9 14 (by omega) (by omega), m9 15 (by omega) (by omega), m9 16 (by omega) (by omega), m9 17 (by omega) (by omega), mm 20 (by decide) (by decide) (by decide) (by decide) (by decide), mm 22 (by decide) (by decide) (by decide) (by decide) (by decide), mm 23 (by decide) (by decide) (by decide) (by decide) (by decide), mm 24 (by decide) (by decide) (by decide) (by decide) (by decide), k18, k19, k21, xk 17 (by decide) (by decide), x2 e 2 (by decide) (by omega), x2 e 3 (by decide) (by omega), x2 e 4 (by decide) (by omega), x2 e 5 (by decide) (by omega), x2 e 13 (by decide) (by omega), x2 e 6 (by decide) (by omega), x2 e 15 (by decide) (by omega), x2 e 9 (by decide) (by omega), x2 e 12 (by decide) (by omega), x2 e 7 (by decide) (by omega), x2 e 14 (by decide) (by omega), x10 e he hle]
      obtain ⟨a1, a2, a3, a4, a5, a6, a7, a8, a9, a10, a11, a12, a13, a14, a15, a16⟩ := q1
      refine ⟨a1, a2, a3, a4, a5, a6, a7, ?_, ?_, a10, rfl, a12, a13, a14, a15, fun p hp hp2 => ?_⟩
      · by_cases ec : e = c
        · rw [ec]; exact x8
        · rw [x2 e 8 (by decide) (by omega), (m18 e ec).1]; exact a8
      · by_cases ec : e = c
        · rw [ec]; exact x11
        · rw [x2 e 11 (by decide) (by omega), (m18 e ec).2]; exact a9
      · rw [x18 e p (by omega)]
        exact a16 p hp hp2
    · unfold MOK at q2 ⊢
      simp only [live.cg m9]
      rw [hpN.cg m9, stN.cg m9, m9 10 (by omega) (by omega), m9 11 (by omega) (by omega), m9 12 (by omega) (by omega), m9 13 (by omega) (by omega), m9 15 (by omega) (by omega), m9 16 (by omega) (by omega), m9 17 (by omega) (by omega), mm 22 (by decide) (by decide) (by decide) (by decide) (by decide), mm 23 (by decide) (by decide) (by decide) (by decide) (by decide), mm 24 (by decide) (by decide) (by decide) (by decide) (by decide), k18, k21]
      obtain ⟨a1, a2, a3, a4, a5, a6, a7, a8, a9, a10, a11, a12⟩ := q2
      refine ⟨a1, a2, a3, a4, a5, a6, a7, ?_, b21 e he hle, a10, a11, a12⟩
      by_cases ec : e = c
      · rw [ec]; exact b18
      · rw [(m18 e ec).1]; exact a8
  · obtain ⟨n', hn', en', h1, h2, h3⟩ := g7
    have e : n' = n := nI_inj (by omega) (by omega) (en'.symm.trans en)
    subst e
    refine ⟨n' + 1, by omega, a25, fun j hj => ?_, fun i j hi hj e1 e2 => ?_, fun e p he hp hle hv => ?_⟩
    · by_cases jn : j = n'
      · subst jn
        refine ⟨c, 0, 2 * nI y + nI g, hc, by rw [live.cg m9]; exact hl, by omega, by omega, ⟨a26, by omega, a27, by rw [a28, a29]⟩, x18c, ?_, ⟨y, by omega, hy, a29⟩, ?_, by rw [stN.cg m9]; exact hbit⟩
        · rw [a28]
          have : g = 0 ∨ g = 1 := by omega
          rcases this with rfl | rfl
          · exact Or.inl rfl
          · exact Or.inr rfl
        · rw [a29, mm 23 (by decide) (by decide) (by decide) (by decide) (by decide)]
          rcases hb with z | z
          · left; rw [z]; rfl
          · exact Or.inr z
      · obtain ⟨c', p, v, q1, q2, q3, q4, q5, q6, q7, q8, q9, q10⟩ := h1 j (by omega)
        refine ⟨c', p, v, q1, by rw [live.cg m9]; exact q2, by omega, by rw [hpN.cg m9]; exact q4, ?_, by rw [x18 c' p (by omega)]; exact q6, by rw [ml 28 j (by omega) (by omega) jn]; exact q7, by rw [ml 29 j (by omega) (by omega) jn]; exact q8, by rw [ml 29 j (by omega) (by omega) jn, mm 23 (by decide) (by decide) (by decide) (by decide) (by decide)]; exact q9, by rw [stN.cg m9]; exact q10⟩
        unfold letM at q5 ⊢
        rw [ml 26 j (by omega) (by omega) jn, ml 27 j (by omega) (by omega) jn, ml 28 j (by omega) (by omega) jn, ml 29 j (by omega) (by omega) jn]
        exact q5
    · have new : ∀ j, j < n' → μ.1 26 0 j = nI c → μ.1 27 0 j = nI T → False := by
        intro j hj z1 z2
        obtain ⟨c', p, v, q1, q2, q3, q4, ⟨q5, q6, q7, -⟩, -⟩ := h1 j hj
        have e1 : c' = c := nI_inj (by omega) (by omega) (q5.symm.trans z1)
        have e2 : T - p = T := nI_inj (by omega) (by omega) (q7.symm.trans z2)
        omega
      by_cases i1 : i = n' <;> by_cases j1 : j = n'
      · omega
      · subst i1
        rw [a26, ml 26 j (by omega) (by omega) j1] at e1
        rw [a27, ml 27 j (by omega) (by omega) j1] at e2
        exact (new j (by omega) e1.symm e2.symm).elim
      · subst j1
        rw [a26, ml 26 i (by omega) (by omega) i1] at e1
        rw [a27, ml 27 i (by omega) (by omega) i1] at e2
        exact (new i (by omega) e1 e2).elim
      · rw [ml 26 i (by omega) (by omega) i1, ml 26 j (by omega) (by omega) j1] at e1
        rw [ml 27 i (by omega) (by omega) i1, ml 27 j (by omega) (by omega) j1] at e2
        exact h2 i j (by omega) (by omega) e1 e2
    · rw [live.cg m9] at hle
      by_cases z : e = c ∧ p = 0
      · obtain ⟨rfl, rfl⟩ := z
        exact ⟨n', by omega, a26, by omega, a27, by rw [x18c, a28, a29]⟩
      · rw [x18 e p z] at hv ⊢
        obtain ⟨j, hj, q5⟩ := h3 e p he hp hle hv
        refine ⟨j, by omega, ?_⟩
        unfold letM at q5 ⊢
        rw [ml 26 j (by omega) (by omega) (by omega), ml 27 j (by omega) (by omega) (by omega), ml 28 j (by omega) (by omega) (by omega), ml 29 j (by omega) (by omega) (by omega)]
        exact q5
