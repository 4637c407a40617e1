/-! count, fastest -/
theorem RelP.find_n {W H S T k : Nat} {σ μ : St} (h : RelP W H S T k σ μ) {c : Nat} (hc : c < 8) : f_X3_find σ (nI c) = some (if μ.1 9 0 c = 0 then none else some c) := by
  have hx : f_X3_find σ (nI c) = if σ.1 2 c 1 = 0 then some none else some (some c) := by
    unfold f_X3_find
    rw [if_pos (nI_pos' (by omega)), if_neg (nleL 8 8 rfl hc (by decide)), clL (by omega)]
    simp only [chk, if_pos (inbL hc (show 8 < 2 ^ 31 by decide))]
  rw [hx, (h.2.2.2.2.1 c hc).2.2.1]
  split <;> rfl
/-- a sum over the circuits -/
def sumC (μ : St) (g : Nat → Int32) : Nat → Nat → Int32 → Int32
  | 0, _, a => a
  | m + 1, t, a => sumC μ g m (t + 1) (if μ.1 9 0 t = 0 then a else a + g t)
theorem sumCX {W H S T k : Nat} {σ μ : St} (h : RelP W H S T k σ μ) (w : Int32) (g : Nat → Int32) (hg : ∀ c, c < 8 → live μ c → f_X2_shareOf σ c w = some (g c)) : f_X3_sumOf σ w = some (sumC μ g 8 0 0) := by
  refine loopM (A := Int32) (fun n b v => f_X3_sumOf_L4 σ w n b v) (fun m t b => some (sumC μ g m t b)) 8 ?_ ?_ 8 0 FU 0 (by omega) (FU_lt (by omega))
  · intro n' m t a ht ih
    have h8 : t < 8 := by omega
    show f_X3_sumOf_L4b σ w (f_X3_sumOf_L4 σ w n') a (nI t) = _
    have ih2 : ∀ b, f_X3_sumOf_L4 σ w n' b (nI (t + 1)) = _ := ih
    simp only [f_X3_sumOf_L4b, if_pos (ltL 8 8 rfl h8 (by decide)), h.find_n h8, Option.bind_some, nI_1, Int32.add_zero, ih2, sumC]
    rcases h.live1 h8 with ⟨l, -, e⟩ | ⟨l, -, e⟩
    · rw [if_neg (by rw [e]; decide), onR_s h8, hg t h8 l]
      simp only [Option.bind_some]
      rw [if_neg (by rw [e]; decide)]
    · rw [if_pos e, onR_n, if_pos e]
  · intro n' a
    show f_X3_sumOf_L4b σ w (f_X3_sumOf_L4 σ w n') a (nI 8) = _
    simp only [f_X3_sumOf_L4b]
    rw [if_neg (show ¬ nI 8 < 8 from by decide)]
    rfl
theorem sumCM {W H S T k : Nat} {σ μ : St} (h : RelP W H S T k σ μ) (w : Int32) : f_X12_sumOf μ w = some (sumC μ (fun c => if w = 0 then 1 else if w = 3 then μ.1 18 0 c else μ.1 22 0 c) 8 0 0) := by
  refine loopM (A := Int32) (fun n b v => f_X12_sumOf_L4 μ w n b v) (fun m t b => some (sumC μ (fun c => if w = 0 then 1 else if w = 3 then μ.1 18 0 c else μ.1 22 0 c) m t b)) 8 ?_ ?_ 8 0 FU 0 (by omega) (FU_lt (by omega))
  · intro n' m t a ht ih
    have h8 : t < 8 := by omega
    show f_X12_sumOf_L4b μ w (f_X12_sumOf_L4 μ w n') a (nI t) = _
    have ih2 : ∀ b, f_X12_sumOf_L4 μ w n' b (nI (t + 1)) = _ := ih
    simp only [f_X12_sumOf_L4b, if_pos (ltL 8 8 rfl h8 (by decide)), chk, if_pos (inbL h8 (show 8 < 2 ^ 31 by decide)), clL (show t < 2 ^ 31 by omega), bnd, nI_1, ih2, sumC]
    by_cases e : μ.1 9 0 t = 0
    · simp only [if_pos e]
    · simp only [if_neg e]
      by_cases q0 : w = 0
      · simp only [if_pos q0]
      · simp only [if_neg q0]
        by_cases q3 : w = 3
        · simp only [if_pos q3]
        · simp only [if_neg q3]
  · intro n' a
    show f_X12_sumOf_L4b μ w (f_X12_sumOf_L4 μ w n') a (nI 8) = _
    simp only [f_X12_sumOf_L4b]
    rw [if_neg (show ¬ nI 8 < 8 from by decide)]
    rfl
theorem sumC_cg {μ : St} {g g2 : Nat → Int32} : ∀ m t a, t + m = 8 → (∀ c, c < 8 → ¬ μ.1 9 0 c = 0 → g c = g2 c) → sumC μ g m t a = sumC μ g2 m t a := by
  intro m
  induction m with
  | zero => intro t a _ _; rfl
  | succ m ih =>
    intro t a ht h
    unfold sumC
    by_cases e : μ.1 9 0 t = 0
    · rw [if_pos e, if_pos e]; exact ih (t + 1) a (by omega) h
    · rw [if_neg e, if_neg e, h t (by omega) e]; exact ih (t + 1) _ (by omega) h
theorem sumC_nat {μ : St} (g : Nat → Nat) : ∀ m t a, sumC μ (fun c => nI (g c)) m t (nI a) = nI (a + ((List.range' t m).map (fun c => if μ.1 9 0 c = 0 then 0 else g c)).sum) := by
  intro m
  induction m with
  | zero => intro t a; simp [sumC]
  | succ m ih =>
    intro t a
    unfold sumC
    rw [List.range'_succ, List.map_cons, List.sum_cons]
    by_cases e : μ.1 9 0 t = 0
    · rw [if_pos e, ih, if_pos e, Nat.zero_add]
    · rw [if_neg e, nI_add, ih, if_neg e, Nat.add_assoc]
theorem sumN_add (f g : Nat → Nat) : ∀ n, sumN (fun c => f c + g c) n = sumN f n + sumN g n
  | 0 => rfl
  | n + 1 => by
    unfold sumN
    rw [sumN_add f g n]
    omega
theorem sumN_one {c : Nat} : ∀ {n : Nat}, sumN (fun d => if d = c then 1 else 0) n = if c < n then 1 else 0
  | 0 => rfl
  | n + 1 => by
    unfold sumN
    rw [sumN_one (n := n)]
    by_cases h1 : c < n
    · rw [if_pos h1, if_neg (show ¬ n = c by omega), if_pos (show c < n + 1 by omega)]
    · rw [if_neg h1]
      by_cases h2 : n = c
      · rw [if_pos h2, if_pos (show c < n + 1 by omega)]
      · rw [if_neg h2, if_neg (show ¬ c < n + 1 by omega)]
theorem part_sum (g : Nat → Nat) : ∀ n, (∀ k, k < n → g k < 8) → sumN (fun c => cntI (fun k => decide (g k = c)) n) 8 = n := by
  intro n
  induction n with
  | zero => intro _; rfl
  | succ n ih =>
    intro h
    have e : sumN (fun c => cntI (fun k => decide (g k = c)) (n + 1)) 8 = sumN (fun c => cntI (fun k => decide (g k = c)) n + (if c = g n then 1 else 0)) 8 := by
      refine sumN_cg (fun c _ => ?_)
      rw [cntI_succ]
      congr 1
      by_cases q : g n = c
      · simp [q]
      · have q2 : ¬ c = g n := fun z => q z.symm
        simp [q, q2]
    rw [e, sumN_add, ih (fun k hk => h k (by omega)), sumN_one, if_pos (h n (by omega))]
theorem RelP.letters_sum {W H S T k : Nat} {σ μ : St} (h : RelP W H S T k σ μ) (hk : k ≤ 513) : f_X3_sumOf σ 1 = some (μ.1 0 0 25) := by
  obtain ⟨n, hn, en, h1, -⟩ := h.2.2.2.2.2.2.1
  rw [sumCX h 1 (fun c => nI (cntI (fun j => decide (μ.1 26 0 j = nI c)) n)) (fun c hc hl => by
    simp only [f_X2_shareOf, undX, h.und hk hc hl hn en, Option.bind_some]
    rfl)]
  rw [show (0 : Int32) = nI 0 from rfl, sumC_nat, en]
  have e1 : ((List.range' 0 8).map (fun c => if μ.1 9 0 c = 0 then 0 else cntI (fun j => decide (μ.1 26 0 j = nI c)) n)).sum = sumN (fun c => cntI (fun j => decide (nN (μ.1 26 0 j) = c)) n) 8 := by
    have := sumN_from (fun c => if μ.1 9 0 c = 0 then 0 else cntI (fun j => decide (μ.1 26 0 j = nI c)) n) 0 8
    rw [Nat.zero_add] at this
    rw [show sumN (fun c => if μ.1 9 0 c = 0 then 0 else cntI (fun j => decide (μ.1 26 0 j = nI c)) n) 0 = 0 from rfl, Nat.zero_add] at this
    rw [← this]
    refine sumN_cg (fun c hc => ?_)
    have key : cntI (fun j => decide (μ.1 26 0 j = nI c)) n = cntI (fun j => decide (nN (μ.1 26 0 j) = c)) n := by
      refine cntI_cg (fun j hj => ?_)
      obtain ⟨c', p, v, q1, q2, q3, q4, ⟨q5, -⟩, -⟩ := h1 j hj
      have : nN (μ.1 26 0 j) = c' := by unfold nN; rw [q5, clL (by omega)]
      rw [this, q5]
      by_cases z : c' = c
      · simp [z]
      · have : ¬ nI c' = nI c := fun y => z (nI_inj (by omega) (by omega) y)
        simp [z, this]
    by_cases e : μ.1 9 0 c = 0
    · rw [if_pos e, ← key]
      symm
      refine cntI_none (fun j hj => ?_)
      obtain ⟨c', p, v, q1, q2, q3, q4, ⟨q5, -⟩, -⟩ := h1 j hj
      have : ¬ μ.1 26 0 j = nI c := by
        intro z
        have : c' = c := nI_inj (by omega) (by omega) (q5.symm.trans z)
        subst this
        unfold live at q2
        rw [q2] at e
        exact absurd e (by decide)
      simp [this]
    · rw [if_neg e, key]
  rw [e1, part_sum (fun j => nN (μ.1 26 0 j)) n (fun j hj => by
    obtain ⟨c', p, v, q1, q2, q3, q4, ⟨q5, -⟩, -⟩ := h1 j hj
    show nN (μ.1 26 0 j) < 8
    unfold nN
    rw [q5, clL (by omega)]
    exact q1), Nat.zero_add]
theorem count_eq {W H S T k : Nat} {σ μ : St} (h : RelP W H S T k σ μ) (hk : k ≤ 513) (p : Int32) : ∃ r, f_X11_count σ p = some r ∧ f_X12_howMany μ p = some r := by
  have hQ : ∀ w : Int32, w = 0 ∨ w = 3 ∨ w = 4 → f_X3_sumOf σ w = f_X12_sumOf μ w := by
    intro w hw
    rw [sumCM h w]
    refine sumCX h w _ (fun c hc hl => ?_)
    obtain ⟨q, -⟩ := h.of_live hc hl
    rcases hw with rfl | rfl | rfl
    · rfl
    · simp only [f_X2_shareOf, q.2.2.2.2.2.2.2.1]; rfl
    · simp only [f_X2_shareOf, q.2.2.2.2.2.2.2.2.2.2.2.1]; rfl
  unfold f_X11_count f_X12_howMany
  by_cases q0 : p = 0
  · subst q0
    exact ⟨_, by rw [if_pos rfl, hQ 0 (by simp), sumCM h]; rfl, by rw [if_pos rfl, sumCM h]; rfl⟩
  by_cases q1 : p = 1
  · subst q1
    exact ⟨μ.1 0 0 25, by rw [if_neg q0, if_pos rfl, h.letters_sum hk]; rfl, by rw [if_neg q0, if_pos rfl]⟩
  by_cases q2 : p = 2
  · obtain ⟨n, -, e1, e2, -⟩ := h.2.2.2.2.2.2.2.1
    exact ⟨nI n, by rw [if_neg q0, if_neg q1, if_pos q2, e1], by rw [if_neg q0, if_neg q1, if_pos q2, e2]⟩
  by_cases q3 : p = 3
  · subst q3
    exact ⟨_, by rw [if_neg q0, if_neg q1, if_neg q2, if_pos rfl, hQ 3 (by simp), sumCM h]; rfl, by rw [if_neg q0, if_neg q1, if_neg q2, if_pos rfl, sumCM h]; rfl⟩
  by_cases q4 : p = 4
  · subst q4
    exact ⟨_, by rw [if_neg q0, if_neg q1, if_neg q2, if_neg q3, if_pos rfl, hQ 4 (by simp), sumCM h]; rfl, by rw [if_neg q0, if_neg q1, if_neg q2, if_neg q3, if_pos rfl, sumCM h]; rfl⟩
  by_cases q5 : p = 5
  · exact ⟨σ.1 5 0 0, by rw [if_neg q0, if_neg q1, if_neg q2, if_neg q3, if_neg q4, if_pos q5], by rw [if_neg q0, if_neg q1, if_neg q2, if_neg q3, if_neg q4, if_pos q5, h.2.2.1.2.1]⟩
  by_cases q6 : p = 6
  · exact ⟨σ.1 10 0 6, by rw [if_neg q0, if_neg q1, if_neg q2, if_neg q3, if_neg q4, if_neg q5, if_pos q6], by rw [if_neg q0, if_neg q1, if_neg q2, if_neg q3, if_neg q4, if_neg q5, if_pos q6, h.2.2.2.2.2.2.2.2.2.1]⟩
  · exact ⟨-102, by rw [if_neg q0, if_neg q1, if_neg q2, if_neg q3, if_neg q4, if_neg q5, if_neg q6], by rw [if_neg q0, if_neg q1, if_neg q2, if_neg q3, if_neg q4, if_neg q5, if_neg q6]⟩
theorem ok_count_Rel : ok_count Rel := by
  intro k σ μ hk ⟨W, H, S, T, hR0⟩ p
  have hR := hR0.mono
  obtain ⟨r, r1, r2⟩ := count_eq hR (by omega) p
  exact ⟨r, r1, by simp only [f_X12_count, r2, Option.bind_some], W, H, S, T, hR⟩
