/-! sums over letters -/
theorem sum_if (P : Nat → Bool) (G : Nat → Nat) : ∀ l : List Nat, (l.map (fun j => if P j then G j else 0)).sum = ((l.filter P).map G).sum
  | [] => rfl
  | x :: l => by
    rw [List.map_cons, List.sum_cons, sum_if P G l, List.filter_cons]
    cases P x
    · simp
    · simp
theorem sumN_l (g : Nat → Nat) (n : Nat) : sumN g n = ((List.range n).map g).sum := by
  have := sumN_from g 0 n
  rw [Nat.zero_add, show sumN g 0 = 0 from rfl, Nat.zero_add, ← List.range_eq_range'] at this
  exact this
theorem sumN_if (P : Nat → Bool) (G : Nat → Nat) (n : Nat) : sumN (fun j => if P j then G j else 0) n = (((List.range n).filter P).map G).sum := by
  rw [sumN_l, sum_if]
/-- the letters of a circuit, by their places or by their numbers -/
theorem RelM.und {t W H S T k : Nat} {σ μ : St} (h : RelM t W H S T k σ μ) (hk : k ≤ 513) {n c : Nat} (hc : c < 8) (hl : live μ c) (hn : n ≤ 100) (ht : t ≤ 8) (en : μ.1 0 0 25 = nI n) (F : Nat → Nat) : sumN (fun p => if decide (σ.1 18 c p ≠ -1) then F p else 0) 8 = sumN (fun j => if decide (μ.1 26 0 j = nI c) then F (T - nN (μ.1 27 0 j)) else 0) n := by
  obtain ⟨n', hn', en', h1, h2, h3⟩ := h.2.2.2.2.2.2.1
  have : n' = n := nI_inj (by omega) (by omega) (en'.symm.trans en)
  subst this
  have hT : T ≤ 40 * k := h.2.1
  have hpl : ∀ j, j < n' → μ.1 26 0 j = nI c → ∃ p, p < 8 ∧ p ≤ T ∧ μ.1 27 0 j = nI (T - p) ∧ σ.1 18 c p ≠ -1 := by
    intro j hj e
    obtain ⟨c', p, v, q1, q2, q3, q4, ⟨q5, q6, q7, q8⟩, q9, q10, q11, -⟩ := h1 j hj
    have ec : c' = c := nI_inj (by omega) (by omega) (q5.symm.trans e)
    subst ec
    obtain ⟨hp, -, hp2, -, -, e3⟩ := h.hops hc hl
    refine ⟨p, by omega, q6, q7, ?_⟩
    rw [q9, q8]
    obtain ⟨tl, -, t2, t3⟩ := q11
    rw [t3]
    rcases q10 with z | z <;> rw [z]
    · rw [show (2 : Int32) = nI 2 from rfl, nI_mul, Int32.add_zero]; exact nI_nm1 (by omega)
    · rw [show (2 : Int32) = nI 2 from rfl, nI_mul, nI_1]; exact nI_nm1 (by omega)
  have d1 : ((List.range 8).filter (fun p => decide (σ.1 18 c p ≠ -1))).Nodup := List.Pairwise.filter _ List.nodup_range
  let g : Nat → Nat := fun j => T - nN (μ.1 27 0 j)
  have gp : ∀ j p, p ≤ T → μ.1 27 0 j = nI (T - p) → g j = p := by
    intro j p hp e
    show T - nN (μ.1 27 0 j) = p
    unfold nN
    rw [e, clL (by omega)]
    omega
  have d2 : (((List.range n').filter (fun j => decide (μ.1 26 0 j = nI c))).map g).Nodup := by
    rw [List.nodup_iff_pairwise_ne, List.pairwise_map]
    refine List.Pairwise.imp_of_mem ?_ (List.Pairwise.filter _ List.nodup_range)
    intro a b ha hb hab e
    simp only [List.mem_filter, List.mem_range, decide_eq_true_eq] at ha hb
    obtain ⟨p1, -, a3, a4, -⟩ := hpl a ha.1 ha.2
    obtain ⟨p2, -, b3, b4, -⟩ := hpl b hb.1 hb.2
    rw [gp a p1 a3 a4, gp b p2 b3 b4] at e
    subst e
    exact hab (h2 a b ha.1 hb.1 (ha.2.trans hb.2.symm) (a4.trans b4.symm))
  have perm := (List.perm_ext_iff_of_nodup d1 d2).mpr (by
    intro p
    simp only [List.mem_filter, List.mem_range, decide_eq_true_eq, List.mem_map]
    constructor
    · rintro ⟨hp, hv⟩
      obtain ⟨j, hj, l1, l2, l3, -⟩ := h3 c p hc hp hl hv
      exact ⟨j, ⟨hj, l1⟩, gp j p l2 l3⟩
    · rintro ⟨j, ⟨hj, l1⟩, e⟩
      obtain ⟨p2, a2, a3, a4, a5⟩ := hpl j hj l1
      rw [gp j p2 a3 a4] at e
      subst e
      exact ⟨a2, a5⟩)
  rw [sumN_if, sumN_if, (perm.map F).sum_nat, List.map_map]
  rfl
theorem sumN_zero {f : Nat → Nat} : ∀ {n : Nat}, (∀ j, j < n → f j = 0) → sumN f n = 0
  | 0, _ => rfl
  | n + 1, h => by
    show sumN f n + f n = 0
    rw [sumN_zero (fun j hj => h j (by omega)), h n (by omega)]
theorem sumN_at {x : Nat} {v : Nat} : ∀ {n : Nat}, sumN (fun d => if d = x then v else 0) n = if x < n then v else 0
  | 0 => rfl
  | n + 1 => by
    show sumN (fun d => if d = x then v else 0) n + (if n = x then v else 0) = _
    rw [sumN_at (n := n)]
    by_cases h1 : x < n
    · rw [if_pos h1, if_neg (show ¬ n = x by omega), if_pos (show x < n + 1 by omega)]
      rfl
    · rw [if_neg h1]
      by_cases h2 : n = x
      · rw [if_pos h2, if_pos (show x < n + 1 by omega), Nat.zero_add]
      · rw [if_neg h2, if_neg (show ¬ x < n + 1 by omega)]
/-- a sum over the letters, by circuits -/
theorem part_sum2 (g : Nat → Nat) (F : Nat → Nat → Nat) : ∀ n, (∀ j, j < n → g j < 8) → sumN (fun c => sumN (fun j => if g j = c then F c j else 0) n) 8 = sumN (fun j => F (g j) j) n := by
  intro n
  induction n with
  | zero => intro _; exact sumN_zero (fun j _ => rfl)
  | succ n ih =>
    intro h
    have e : sumN (fun c => sumN (fun j => if g j = c then F c j else 0) (n + 1)) 8 = sumN (fun c => sumN (fun j => if g j = c then F c j else 0) n + (if c = g n then F (g n) n else 0)) 8 := by
      refine sumN_cg (fun c _ => ?_)
      show sumN (fun j => if g j = c then F c j else 0) n + (if g n = c then F c n else 0) = _
      congr 1
      by_cases q : g n = c
      · rw [if_pos q, if_pos q.symm, q]
      · rw [if_neg q, if_neg (fun z => q z.symm)]
    rw [e, sumN_add, ih (fun j hj => h j (by omega)), sumN_at, if_pos (h n (by omega))]
    rfl
