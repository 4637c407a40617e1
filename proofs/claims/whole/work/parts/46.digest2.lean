theorem dg_count {W H S T k : Nat} {σ μ : St} (h : RelP W H S T k σ μ) (hk : k ≤ 513) (w : Int64) : ED μ (f_X11_digest_L123 σ FU w 0) (f_X12_digest_L174 FU (M5 μ w) 0) := by
  refine loop2 (ED μ) (fun n w v => f_X11_digest_L123 σ n w v) (fun n s v => f_X12_digest_L174 n s v) (M5 μ) 7 ?_ ?_ 7 0 FU FU w (by omega) (FU_lt (by omega)) (FU_lt (by omega))
  · intro n n' t w ht ih
    show ED μ (f_X11_digest_L123b σ (f_X11_digest_L123 σ n) w (nI t)) (f_X12_digest_L174b (f_X12_digest_L174 n') (M5 μ w) (nI t))
    have l1 : nI t ≤ 6 := show nI t ≤ nI 6 from nI_le (by omega) (by decide)
    have l2 : nI t < 7 := ltL 7 7 rfl ht (by decide)
    obtain ⟨r, r1, r2⟩ := count_eq (h.m5 w) hk (nI t)
    unfold f_X11_digest_L123b f_X12_digest_L174b
    rw [if_pos l1, if_pos l2, r1, r2, Option.bind_some, Option.bind_some, mixM]
    show ED μ (f_X11_digest_L123 σ n (31 * w + Int32.toInt64 r) (nI t + 1)) (f_X12_digest_L174 n' (M5 μ (31 * w + Int32.toInt64 r)) (nI t + 1))
    rw [nI_1]
    exact ih _
  · intro n n' w
    show ED μ (f_X11_digest_L123b σ (f_X11_digest_L123 σ n) w (nI 7)) (f_X12_digest_L174b (f_X12_digest_L174 n') (M5 μ w) (nI 7))
    unfold f_X11_digest_L123b f_X12_digest_L174b
    have e : (M5 μ w).2.2 52 = w := sL_eq
    rw [if_neg (by decide), if_neg (by decide), e]
    exact ⟨w, rfl, rfl⟩
theorem dg_page {W H S T k : Nat} {σ μ : St} (h : RelP W H S T k σ μ) (hk : k ≤ 513) (w : Int64) : ED μ (f_X11_digest_L91 σ FU w 0) (f_X12_digest_L147 FU (M5 μ w) 0) := by
  obtain ⟨⟨N, -, n2, en⟩, em, hc⟩ := h.2.2.1
  have eN : nN (σ.1 5 0 0) = N := by unfold nN; rw [en, clL (by omega)]
  rw [eN] at hc
  rw [en] at em
  refine loop2 (ED μ) (fun n w v => f_X11_digest_L91 σ n w v) (fun n s v => f_X12_digest_L147 n s v) (M5 μ) N ?_ ?_ N 0 FU FU w (by omega) (FU_lt (by omega)) (FU_lt (by omega))
  · intro n n' t w ht ih
    show ED μ (f_X11_digest_L91b σ (f_X11_digest_L91 σ n) w (nI t)) (f_X12_digest_L147b (f_X12_digest_L147 n') (M5 μ w) (nI t))
    have i1 : inb (nI t) 30 := inbL (by omega) (by decide)
    have c1 : Int32.toNatClampNeg (nI t) = t := clL (by omega)
    have r1 : f_X5_codeAt σ (nI t) = some (μ.1 8 0 t) := by
      unfold f_X5_codeAt chk
      rw [if_pos (leL 0 0 rfl (Nat.zero_le t) (by omega)), if_neg (nleL 30 30 rfl (by omega) (by decide)), if_pos i1, c1, (hc t ht).1]
    unfold f_X11_digest_L91b f_X12_digest_L147b chk
    rw [en, M5_1, em, if_pos (nI_lt ht (by omega)), if_pos (nI_lt ht (by omega)), r1, if_pos i1, c1, Option.bind_some, mixM]
    show ED μ (f_X11_digest_L91 σ n (31 * w + Int32.toInt64 (μ.1 8 0 t)) (nI t + 1)) (f_X12_digest_L147 n' (M5 μ (31 * w + Int32.toInt64 (μ.1 8 0 t))) (nI t + 1))
    rw [nI_1]
    exact ih _
  · intro n n' w
    show ED μ (f_X11_digest_L91b σ (f_X11_digest_L91 σ n) w (nI N)) (f_X12_digest_L147b (f_X12_digest_L147 n') (M5 μ w) (nI N))
    unfold f_X11_digest_L91b f_X12_digest_L147b
    rw [en, M5_1, em, if_neg (nI_nlt (Nat.le_refl _) (by omega)), if_neg (nI_nlt (Nat.le_refl _) (by omega))]
    exact dg_count h hk w
/-- what SlotChip's digest does with the number of the strays -/
def CX (σ : St) (w : Int64) : Option Int64 :=
  (f_X11_fastest σ).bind fun r6 =>
  (f_X11_mix w r6).bind fun r7 =>
  (f_X11_faster σ).bind fun r8 =>
  (f_X11_mix r7 r8).bind fun r9 =>
  f_X11_digest_L91 σ FU r9 0
def EC (σ μ : St) (a : Option Int64) (b : Option (St × Int64)) : Prop := ED μ (a.bind (CX σ)) b
theorem arr_now {W H S T k : Nat} {σ μ : St} (h : RelP W H S T k σ μ) (p : Int32) (hp : p = 0 ∨ p = 1) {t : Nat} (ht : t < 3) : ∃ r, f_X11_arrived σ p (nI t) = some r ∧ f_X12_arrivedNow μ p (nI t) = some r := by
  obtain ⟨a1, r, a2⟩ := arr_eq h.2.2.2.2.2.2.2.2.1 p (nI t)
  refine ⟨r, a1.trans a2, ?_⟩
  have i0 : (0 : Int32) ≤ nI t := leL 0 0 rfl (Nat.zero_le t) (by omega)
  have i2 : nI t ≤ 2 := show nI t ≤ nI 2 from nI_le (by omega) (by decide)
  simp only [f_X12_arrived, within_in i0 i2, Option.bind_some, show ¬ (1 : Int32) = 0 from by decide, if_false] at a2
  rcases hp with rfl | rfl
  · rw [if_pos rfl] at a2
    cases hq : f_X12_arrivedNow μ 0 (nI t) with
    | none => rw [hq] at a2; cases a2
    | some v => rw [hq] at a2; exact a2
  · rw [if_neg (by decide)] at a2
    cases hq : f_X12_arrivedNow μ 1 (nI t) with
    | none => rw [hq] at a2; cases a2
    | some v => rw [hq] at a2; exact a2
theorem dg_fast {W H S T k : Nat} {σ μ : St} (h : RelP W H S T k σ μ) (hk : k ≤ 513) (w : Int64) : ED μ (CX σ w) ((f_X12_fastestNow (M5 μ w)).bind fun r14 => (f_X12_mix (M5 μ w) (Int32.toInt64 r14)).bind fun σ16 => (f_X12_fasterNow σ16).bind fun r17 => (f_X12_mix σ16 (Int32.toInt64 r17)).bind fun σ19 => f_X12_digest_L147 FU σ19 0) := by
  have t1 : σ.1 1 0 2 = nI T := h.2.2.2.1.2.2.2.1
  have f1 : f_X11_fastest σ = some (oI (fastF (M5 μ w) 8 0 none)) := by
    unfold f_X11_fastest
    rw [t1, fastX (h.m5 w) hk, Option.bind_some]
  have f2 := fastM (h.m5 w) hk
  generalize oI (fastF (M5 μ w) 8 0 none) = r at f1 f2
  unfold CX
  rw [f1, f2, Option.bind_some, Option.bind_some, mixM, Option.bind_some]
  show ED μ ((f_X11_faster σ).bind fun r8 => (f_X11_mix (31 * w + Int32.toInt64 r) r8).bind fun r9 => f_X11_digest_L91 σ FU r9 0) _
  generalize 31 * w + Int32.toInt64 r = w
  obtain ⟨a1, v, a2⟩ := fast_eq (h.m5 w).2.2.2.2.2.2.2.2.1
  have a3 : f_X12_fasterNow (M5 μ w) = some v := by
    unfold f_X12_faster at a2
    cases hq : f_X12_fasterNow (M5 μ w) with
    | none => rw [hq] at a2; cases a2
    | some v => rw [hq] at a2; exact a2
  rw [a1, a2, a3, Option.bind_some, Option.bind_some, mixM, Option.bind_some]
  exact dg_page h hk _
theorem dg_a0 {W H S T k : Nat} {σ μ : St} (h : RelP W H S T k σ μ) (hk : k ≤ 513) (w : Int64) : EC σ μ (f_X11_mixStrays_L81 σ FU w 0) (f_X12_digest_L105 FU (M5 μ w) 0) := by
  refine loop2 (EC σ μ) (fun n w v => f_X11_mixStrays_L81 σ n w v) (fun n s v => f_X12_digest_L105 n s v) (M5 μ) 3 ?_ ?_ 3 0 FU FU w (by omega) (FU_lt (by omega)) (FU_lt (by omega))
  · intro n n' t w ht ih
    show EC σ μ (f_X11_mixStrays_L81b σ (f_X11_mixStrays_L81 σ n) w (nI t)) (f_X12_digest_L105b (f_X12_digest_L105 n') (M5 μ w) (nI t))
    have l1 : nI t ≤ 2 := show nI t ≤ nI 2 from nI_le (by omega) (by decide)
    have l2 : nI t < 3 := ltL 3 3 rfl ht (by decide)
    obtain ⟨r, r1, r2⟩ := arr_now (h.m5 w) 0 (Or.inl rfl) ht
    unfold f_X11_mixStrays_L81b f_X12_digest_L105b
    rw [if_pos l1, if_pos l2, r1, r2, Option.bind_some, Option.bind_some, mixM]
    show EC σ μ (f_X11_mixStrays_L81 σ n (31 * w + Int32.toInt64 r) (nI t + 1)) (f_X12_digest_L105 n' (M5 μ (31 * w + Int32.toInt64 r)) (nI t + 1))
    rw [nI_1]
    exact ih _
  · intro n n' w
    show EC σ μ (f_X11_mixStrays_L81b σ (f_X11_mixStrays_L81 σ n) w (nI 3)) (f_X12_digest_L105b (f_X12_digest_L105 n') (M5 μ w) (nI 3))
    unfold f_X11_mixStrays_L81b f_X12_digest_L105b
    rw [if_neg (by decide), if_neg (by decide)]
    exact dg_fast h hk w
theorem dg_a1 {W H S T k : Nat} {σ μ : St} (h : RelP W H S T k σ μ) (hk : k ≤ 513) (w : Int64) : EC σ μ (f_X11_mixStrays_L54 σ FU w 0) (f_X12_digest_L81 FU (M5 μ w) 0) := by
  refine loop2 (EC σ μ) (fun n w v => f_X11_mixStrays_L54 σ n w v) (fun n s v => f_X12_digest_L81 n s v) (M5 μ) 3 ?_ ?_ 3 0 FU FU w (by omega) (FU_lt (by omega)) (FU_lt (by omega))
  · intro n n' t w ht ih
    show EC σ μ (f_X11_mixStrays_L54b σ (f_X11_mixStrays_L54 σ n) w (nI t)) (f_X12_digest_L81b (f_X12_digest_L81 n') (M5 μ w) (nI t))
    have l1 : nI t ≤ 2 := show nI t ≤ nI 2 from nI_le (by omega) (by decide)
    have l2 : nI t < 3 := ltL 3 3 rfl ht (by decide)
    obtain ⟨r, r1, r2⟩ := arr_now (h.m5 w) 1 (Or.inr rfl) ht
    unfold f_X11_mixStrays_L54b f_X12_digest_L81b
    rw [if_pos l1, if_pos l2, r1, r2, Option.bind_some, Option.bind_some, mixM]
    show EC σ μ (f_X11_mixStrays_L54 σ n (31 * w + Int32.toInt64 r) (nI t + 1)) (f_X12_digest_L81 n' (M5 μ (31 * w + Int32.toInt64 r)) (nI t + 1))
    rw [nI_1]
    exact ih _
  · intro n n' w
    show EC σ μ (f_X11_mixStrays_L54b σ (f_X11_mixStrays_L54 σ n) w (nI 3)) (f_X12_digest_L81b (f_X12_digest_L81 n') (M5 μ w) (nI 3))
    unfold f_X11_mixStrays_L54b f_X12_digest_L81b
    rw [if_neg (by decide), if_neg (by decide)]
    exact dg_a0 h hk w
theorem stray_now {W H S T k : Nat} {σ μ : St} (h : RelP W H S T k σ μ) {n t u : Nat} (en : σ.1 8 0 0 = nI n) (em : μ.1 0 0 30 = nI n) (hn : n ≤ 12) (ht : t < n) (hu : u < 5) : ∃ r, f_X11_straying σ (nI t) (nI u) = some r ∧ f_X12_strayNow μ (nI t) (nI u) = some r := by
  obtain ⟨r, -, r2⟩ := stray_tell h en hn ht (nI u)
  obtain ⟨r', q1, q2⟩ := straying_eq h (nI t) (nI u)
  refine ⟨r, ?_, r2⟩
  have i0 : (0 : Int32) ≤ nI t := leL 0 0 rfl (Nat.zero_le t) (by omega)
  have i1 : nI t ≤ nI n - 1 := by
    rw [show (1 : Int32) = nI 1 from rfl, nI_sub (by omega)]
    exact nI_le (by omega) (by omega)
  have j0 : (0 : Int32) ≤ nI u := leL 0 0 rfl (Nat.zero_le u) (by omega)
  have j1 : nI u ≤ 4 := show nI u ≤ nI 4 from nI_le (by omega) (by decide)
  simp only [f_X12_straying, em, within_in i0 i1, within_in j0 j1, Option.bind_some, show ¬ (1 : Int32) = 0 from by decide, if_false, r2] at q2
  rw [q1, q2]
theorem dg_str1 {W H S T k : Nat} {σ μ : St} (h : RelP W H S T k σ μ) {N t : Nat} (en : σ.1 8 0 0 = nI N) (em : μ.1 0 0 30 = nI N) (hn : N ≤ 12) (ht : t < N) {K5 : Int64 → Int32 → Option Int64} (hK : ∀ w fu, 5 * N - (5 * t + 5) < fu → EC σ μ (K5 w (nI (t + 1))) (f_X12_digest_L48 fu (M5 μ w) (nI (5 * t + 5)))) :
    ∀ d u w fu fu', u + d = 5 → d < fu → 5 * N - (5 * t + u) < fu' → EC σ μ (f_X11_mixStrays_L20 K5 σ (nI t) fu w (nI u)) (f_X12_digest_L48 fu' (M5 μ w) (nI (5 * t + u))) := by
  intro d
  induction d with
  | zero =>
    intro u w fu fu' h1 h2 h3
    obtain ⟨fu, rfl⟩ : ∃ j, fu = j + 1 := ⟨fu - 1, by omega⟩
    have e : u = 5 := by omega
    subst e
    show EC σ μ (f_X11_mixStrays_L20b K5 σ (nI t) (f_X11_mixStrays_L20 K5 σ (nI t) fu) w (nI 5)) _
    unfold f_X11_mixStrays_L20b
    rw [if_neg (by decide), nI_1]
    exact hK w fu' h3
  | succ d ih =>
    intro u w fu fu' h1 h2 h3
    obtain ⟨fu, rfl⟩ : ∃ j, fu = j + 1 := ⟨fu - 1, by omega⟩
    obtain ⟨fu', rfl⟩ : ∃ j, fu' = j + 1 := ⟨fu' - 1, by omega⟩
    show EC σ μ (f_X11_mixStrays_L20b K5 σ (nI t) (f_X11_mixStrays_L20 K5 σ (nI t) fu) w (nI u)) (f_X12_digest_L48b (f_X12_digest_L48 fu') (M5 μ w) (nI (5 * t + u)))
    have l1 : nI u ≤ 4 := show nI u ≤ nI 4 from nI_le (by omega) (by decide)
    have e5 : 5 * nI N = nI (5 * N) := by rw [show (5 : Int32) = nI 5 from rfl, nI_mul]
    have e6 : nI (5 * t + u) / 5 = nI t := by
      rw [show (5 : Int32) = nI 5 from rfl, nI_div (by omega) (by decide)]
      congr 1
      omega
    have e7 : remI (nI (5 * t + u)) 5 = nI u := by
      rw [show (5 : Int32) = nI 5 from rfl, nI_rem (by omega) (by decide)]
      congr 1
      omega
    obtain ⟨r, r1, r2⟩ := stray_now (h.m5 w) en em hn ht (show u < 5 by omega)
    unfold f_X11_mixStrays_L20b f_X12_digest_L48b
    rw [if_pos l1, M5_1, em, e5, if_pos (nI_lt (show 5 * t + u < 5 * N by omega) (by omega)), e6, e7, r1, r2, Option.bind_some, Option.bind_some, mixM]
    show EC σ μ (f_X11_mixStrays_L20 K5 σ (nI t) fu (31 * w + Int32.toInt64 r) (nI u + 1)) (f_X12_digest_L48 fu' (M5 μ (31 * w + Int32.toInt64 r)) (nI (5 * t + u) + 1))
    rw [nI_1, nI_1]
    exact ih (u + 1) _ fu fu' (by omega) (by omega) (by omega)
theorem dg_str {W H S T k : Nat} {σ μ : St} (h : RelP W H S T k σ μ) (hk : k ≤ 513) {N : Nat} (en : σ.1 8 0 0 = nI N) (em : μ.1 0 0 30 = nI N) (hn : N ≤ 12) :
    ∀ s t w fu fu', t + s = N → s < fu → 5 * s < fu' → EC σ μ (f_X11_mixStrays_L5 σ fu w (nI t)) (f_X12_digest_L48 fu' (M5 μ w) (nI (5 * t))) := by
  intro s
  have e5 : 5 * nI N = nI (5 * N) := by rw [show (5 : Int32) = nI 5 from rfl, nI_mul]
  induction s with
  | zero =>
    intro t w fu fu' h1 h2 h3
    obtain ⟨fu, rfl⟩ : ∃ j, fu = j + 1 := ⟨fu - 1, by omega⟩
    obtain ⟨fu', rfl⟩ : ∃ j, fu' = j + 1 := ⟨fu' - 1, by omega⟩
    have e : t = N := by omega
    subst e
    show EC σ μ (f_X11_mixStrays_L5b σ (f_X11_mixStrays_L5 σ fu) w (nI t)) (f_X12_digest_L48b (f_X12_digest_L48 fu') (M5 μ w) (nI (5 * t)))
    unfold f_X11_mixStrays_L5b f_X12_digest_L48b
    rw [en, if_neg (nI_nlt (Nat.le_refl t) (by omega)), M5_1, em, e5, if_neg (nI_nlt (Nat.le_refl _) (by omega))]
    exact dg_a1 h hk w
  | succ s ih =>
    intro t w fu fu' h1 h2 h3
    obtain ⟨fu, rfl⟩ : ∃ j, fu = j + 1 := ⟨fu - 1, by omega⟩
    show EC σ μ (f_X11_mixStrays_L5b σ (f_X11_mixStrays_L5 σ fu) w (nI t)) (f_X12_digest_L48 fu' (M5 μ w) (nI (5 * t)))
    unfold f_X11_mixStrays_L5b
    rw [en, if_pos (nI_lt (show t < N by omega) (by omega))]
    exact dg_str1 h en em hn (show t < N by omega) (fun w fu2 hf => ih (t + 1) w fu fu2 (by omega) (by omega) (by omega)) 5 0 w FU fu' (by omega) (FU_lt (by omega)) (by omega)
theorem dg_circ {W H S T k : Nat} {σ μ : St} (h : RelP W H S T k σ μ) (hk : k ≤ 513) (w : Int64) : ED μ (f_X11_digest_L26 σ FU w 0) (f_X12_digest_L20 FU (M5 μ w) 0) := by
  refine loop2 (ED μ) (fun n w v => f_X11_digest_L26 σ n w v) (fun n s v => f_X12_digest_L20 n s v) (M5 μ) 8 ?_ ?_ 8 0 FU FU w (by omega) (FU_lt (by omega)) (FU_lt (by omega))
  · intro n n' t w ht ih
    show ED μ (f_X11_digest_L26b σ (f_X11_digest_L26 σ n) w (nI t)) (f_X12_digest_L20b (f_X12_digest_L20 n') (M5 μ w) (nI t))
    have l2 : nI t < 8 := ltL 8 8 rfl ht (by decide)
    have i1 : inb (nI t) 8 := inbL ht (by decide)
    have c1 : Int32.toNatClampNeg (nI t) = t := clL (by omega)
    unfold f_X11_digest_L26b f_X12_digest_L20b chk
    rw [if_pos l2, if_pos l2, if_pos i1, c1, M5_1]
    rcases h.live1 ht with ⟨a, b, d⟩ | ⟨a, b, d⟩
    · rw [h.find ht a, d, if_neg (by decide), Option.bind_some, onR_s ht]
      obtain ⟨w', e1, e2⟩ := mix_circ h hk ht a w
      rw [e1, e2, Option.bind_some, Option.bind_some, nI_1]
      exact ih w'
    · have : f_X3_find σ (nI t) = some none := by
        unfold f_X3_find chk
        rw [if_pos (leL 0 0 rfl (Nat.zero_le t) (by omega)), if_neg (nleL 8 8 rfl ht (by decide)), if_pos i1, c1, b, if_pos rfl]
      rw [this, d, if_pos rfl, Option.bind_some, onR_n, nI_1]
      exact ih w
  · intro n n' w
    show ED μ (f_X11_digest_L26b σ (f_X11_digest_L26 σ n) w (nI 8)) (f_X12_digest_L20b (f_X12_digest_L20 n') (M5 μ w) (nI 8))
    unfold f_X11_digest_L26b f_X12_digest_L20b
    rw [if_neg (by decide), if_neg (by decide)]
    obtain ⟨N, hn, en, em, -⟩ := h.2.2.2.2.2.2.2.1
    exact dg_str h hk en em hn N 0 w FU FU (by omega) (FU_lt (by omega)) (FU_lt (by omega))
theorem ok_digest_Rel : ok_digest Rel := by
  intro k σ μ hk ⟨W, H, S, T, hR0⟩
  have hR := hR0.mono
  have key : ED μ (f_X11_digest σ) (f_X12_digest μ) := by
    unfold f_X11_digest f_X12_digest bnd
    show ED μ _ ((f_X12_isChip (M5 μ 1511)).bind fun r2 => if r2 = 0 then f_X12_digest_L20 FU (M5 μ 1511) 0 else (f_X12_mixChip (M5 μ 1511)).bind fun σ26 => f_X12_digest_L20 FU σ26 0)
    obtain ⟨t1, t2⟩ := isThere_eq (hR.m5 1511)
    rw [t1, t2, Option.bind_some, Option.bind_some]
    by_cases hS : 0 < S
    · rw [if_pos hS, if_neg (by decide), if_neg (by decide)]
      obtain ⟨w, e1, e2⟩ := mix_chip hR (by omega) hS 1511
      rw [e1, e2, Option.bind_some, Option.bind_some]
      exact dg_circ hR (by omega) w
    · rw [if_neg hS, if_pos rfl, if_pos rfl]
      exact dg_circ hR (by omega) 1511
  obtain ⟨w, e1, e2⟩ := key
  exact ⟨M5 μ w, w, e1, e2, W, H, S, T, hR.m5 w⟩
