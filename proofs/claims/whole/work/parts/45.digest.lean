/-! digest -/
theorem loop2 {A B : Type} (R : A → B → Prop) (FX : Nat → Int64 → Int32 → A) (FM : Nat → St → Int32 → B) (M : Int64 → St) (N : Nat)
    (step : ∀ n n' t w, t < N → (∀ w', R (FX n w' (nI (t + 1))) (FM n' (M w') (nI (t + 1)))) → R (FX (n + 1) w (nI t)) (FM (n' + 1) (M w) (nI t)))
    (fin : ∀ n n' w, R (FX (n + 1) w (nI N)) (FM (n' + 1) (M w) (nI N))) : ∀ m t n n' w, t + m = N → m < n → m < n' → R (FX n w (nI t)) (FM n' (M w) (nI t)) := by
  intro m
  induction m with
  | zero =>
    intro t n n' w h1 h2 h3
    obtain ⟨n, rfl⟩ : ∃ j, n = j + 1 := ⟨n - 1, by omega⟩
    obtain ⟨n', rfl⟩ : ∃ j, n' = j + 1 := ⟨n' - 1, by omega⟩
    rw [show t = N by omega]
    exact fin n n' w
  | succ m ih =>
    intro t n n' w h1 h2 h3
    obtain ⟨n, rfl⟩ : ∃ j, n = j + 1 := ⟨n - 1, by omega⟩
    obtain ⟨n', rfl⟩ : ∃ j, n' = j + 1 := ⟨n' - 1, by omega⟩
    exact step n n' t w (by omega) (fun w' => ih (t + 1) n n' w' (by omega) (by omega) (by omega))
def M5 (μ : St) (w : Int64) : St := sL μ 52 w
theorem mixM (μ : St) (w v : Int64) : f_X12_mix (M5 μ w) v = some (M5 μ (31 * w + v)) := by
  have e : (M5 μ w).2.2 52 = w := sL_eq
  simp only [f_X12_mix, bnd, e]
  unfold M5 sL
  congr 3
  funext c
  by_cases q : c = 52
  · simp [q]
  · simp [q]
theorem RelP.m5 {W H S T k : Nat} {σ μ : St} (h : RelP W H S T k σ μ) (w : Int64) : RelP W H S T k σ (M5 μ w) :=
  h.cg rfl rfl rfl rfl rfl (fun _ _ _ => rfl) rfl rfl rfl rfl rfl rfl (fun _ _ => rfl) (fun _ _ _ => rfl)
theorem M5_1 (μ : St) (w : Int64) : (M5 μ w).1 = μ.1 := rfl
def EI (μ : St) (a : Option Int64) (b : Option St) : Prop := ∃ w, a = some w ∧ b = some (M5 μ w)
def ED (μ : St) (a : Option Int64) (b : Option (St × Int64)) : Prop := ∃ w, a = some w ∧ b = some (M5 μ w, w)
theorem mix_link {W H S T k : Nat} {σ μ : St} (h : RelP W H S T k σ μ) {l : Nat} (hl : l < 54) {K35 : Int64 → Int32 → Option Int64} {K26 : St → Int32 → Option St} (hK : ∀ w, EI μ (K35 w (nI (l + 1))) (K26 (M5 μ w) (nI (l + 1)))) (w : Int64) : EI μ (f_X11_mixBoard_L45 K35 σ (nI l) FU w 0) (f_X12_mixChip_L34 K26 (nI l) FU (M5 μ w) 0) := by
  refine loop2 (EI μ) (fun n w v => f_X11_mixBoard_L45 K35 σ (nI l) n w v) (fun n s v => f_X12_mixChip_L34 K26 (nI l) n s v) (M5 μ) 4 ?_ ?_ 4 0 FU FU w (by omega) (FU_lt (by omega)) (FU_lt (by omega))
  · intro n n' t w ht ih
    show EI μ (f_X11_mixBoard_L45b K35 σ (nI l) (f_X11_mixBoard_L45 K35 σ (nI l) n) w (nI t)) (f_X12_mixChip_L34b K26 (nI l) (f_X12_mixChip_L34 K26 (nI l) n') (M5 μ w) (nI t))
    have hw := h.m5 w
    have l1 : nI t ≤ 3 := show nI t ≤ nI 3 from nI_le (by omega) (by decide)
    have l2 : nI t < 4 := ltL 4 4 rfl ht (by decide)
    unfold f_X11_mixBoard_L45b f_X12_mixChip_L34b
    rw [if_pos l1, if_pos l2, hasLink_eq hl, isLink_eq hw.1 hw.2.2.2.1 hl, h.endR hl, Option.bind_some, Option.bind_some]
    by_cases he : endV W H l = -2
    · rw [if_pos he, if_pos rfl, if_pos rfl, nI_1]
      exact hK w
    · rw [if_neg he, if_neg (by decide), if_neg (by decide)]
      obtain ⟨r, r1, r2⟩ := tellLink_eq hw hl he (nI t)
      rw [r1, r2, Option.bind_some, Option.bind_some, mixM]
      show EI μ (f_X11_mixBoard_L45 K35 σ (nI l) n (31 * w + Int32.toInt64 r) (nI t + 1)) (f_X12_mixChip_L34 K26 (nI l) n' (M5 μ (31 * w + Int32.toInt64 r)) (nI t + 1))
      rw [nI_1]
      exact ih _
  · intro n n' w
    show EI μ (f_X11_mixBoard_L45b K35 σ (nI l) (f_X11_mixBoard_L45 K35 σ (nI l) n) w (nI 4)) (f_X12_mixChip_L34b K26 (nI l) (f_X12_mixChip_L34 K26 (nI l) n') (M5 μ w) (nI 4))
    unfold f_X11_mixBoard_L45b f_X12_mixChip_L34b
    rw [if_neg (by decide), if_neg (by decide), nI_1]
    exact hK w
theorem mix_links {W H S T k : Nat} {σ μ : St} (h : RelP W H S T k σ μ) (w : Int64) : EI μ (f_X11_mixBoard_L35 σ FU w 0) (f_X12_mixChip_L26 FU (M5 μ w) 0) := by
  refine loop2 (EI μ) (fun n w v => f_X11_mixBoard_L35 σ n w v) (fun n s v => f_X12_mixChip_L26 n s v) (M5 μ) 54 ?_ ?_ 54 0 FU FU w (by omega) (FU_lt (by omega)) (FU_lt (by omega))
  · intro n n' t w ht ih
    show EI μ (f_X11_mixBoard_L35b σ (f_X11_mixBoard_L35 σ n) w (nI t)) (f_X12_mixChip_L26b (f_X12_mixChip_L26 n') (M5 μ w) (nI t))
    have l2 : nI t < 54 := ltL 54 54 rfl ht (by decide)
    unfold f_X11_mixBoard_L35b f_X12_mixChip_L26b
    rw [if_pos l2, if_pos l2]
    exact mix_link h ht ih w
  · intro n n' w
    exact ⟨w, rfl, rfl⟩
theorem mix_chip {W H S T k : Nat} {σ μ : St} (h : RelP W H S T k σ μ) (hk : k ≤ 513) (h0 : 0 < S) (w : Int64) : EI μ (f_X11_mixBoard σ w) (f_X12_mixChip (M5 μ w)) := by
  refine loop2 (EI μ) (fun n w v => f_X11_mixBoard_L5 σ n w v) (fun n s v => f_X12_mixChip_L2 n s v) (M5 μ) 8 ?_ ?_ 8 0 FU FU w (by omega) (FU_lt (by omega)) (FU_lt (by omega))
  · intro n n' t w ht ih
    show EI μ (f_X11_mixBoard_L5b σ (f_X11_mixBoard_L5 σ n) w (nI t)) (f_X12_mixChip_L2b (f_X12_mixChip_L2 n') (M5 μ w) (nI t))
    have l1 : nI t ≤ 7 := show nI t ≤ nI 7 from nI_le (by omega) (by decide)
    have l2 : nI t < 8 := ltL 8 8 rfl ht (by decide)
    obtain ⟨r, r1, r2⟩ := tell_eq (h.m5 w) hk h0 (nI t)
    unfold f_X11_mixBoard_L5b f_X12_mixChip_L2b
    rw [if_pos l1, if_pos l2, r1, r2, Option.bind_some, Option.bind_some, mixM]
    show EI μ (f_X11_mixBoard_L5 σ n (31 * w + Int32.toInt64 r) (nI t + 1)) (f_X12_mixChip_L2 n' (M5 μ (31 * w + Int32.toInt64 r)) (nI t + 1))
    rw [nI_1]
    exact ih _
  · intro n n' w
    show EI μ (f_X11_mixBoard_L5b σ (f_X11_mixBoard_L5 σ n) w (nI 8)) (f_X12_mixChip_L2b (f_X12_mixChip_L2 n') (M5 μ w) (nI 8))
    unfold f_X11_mixBoard_L5b f_X12_mixChip_L2b
    rw [if_neg (by decide), if_neg (by decide)]
    exact mix_links h w
theorem mix_starts {W H S T k : Nat} {σ μ : St} (h : RelP W H S T k σ μ) {c : Nat} (hc : c < 8) (hl : live μ c) (w : Int64) : EI μ (f_X11_mixCircuit_L77 σ c FU w 0) (f_X12_mixCircuit_L69 (nI c) FU (M5 μ w) 0) := by
  obtain ⟨q, o, -⟩ := h.of_live hc hl
  obtain ⟨N, n1, n2, en⟩ := o.2.2.1
  have i1 : inb (nI c) 8 := inbL hc (by decide)
  have c1 : Int32.toNatClampNeg (nI c) = c := clL (by omega)
  have ex : σ.1 2 c 5 = nI N := q.2.2.2.1.trans en
  refine loop2 (EI μ) (fun n w v => f_X11_mixCircuit_L77 σ c n w v) (fun n s v => f_X12_mixCircuit_L69 (nI c) n s v) (M5 μ) N ?_ ?_ N 0 FU FU w (by omega) (FU_lt (by omega)) (FU_lt (by omega))
  · intro n n' t w ht ih
    show EI μ (f_X11_mixCircuit_L77b σ c (f_X11_mixCircuit_L77 σ c n) w (nI t)) (f_X12_mixCircuit_L69b (nI c) (f_X12_mixCircuit_L69 (nI c) n') (M5 μ w) (nI t))
    obtain ⟨r, r1, r2⟩ := start_both (h.m5 w) hc hl en (by omega) ht
    unfold f_X11_mixCircuit_L77b f_X12_mixCircuit_L69b
    unfold chk
    rw [if_pos i1, c1, M5_1, ex, en, if_pos (nI_lt ht (by omega)), if_pos (nI_lt ht (by omega)), r1, r2, Option.bind_some, Option.bind_some, mixM]
    show EI μ (f_X11_mixCircuit_L77 σ c n (31 * w + Int32.toInt64 r) (nI t + 1)) (f_X12_mixCircuit_L69 (nI c) n' (M5 μ (31 * w + Int32.toInt64 r)) (nI t + 1))
    rw [nI_1]
    exact ih _
  · intro n n' w
    show EI μ (f_X11_mixCircuit_L77b σ c (f_X11_mixCircuit_L77 σ c n) w (nI N)) (f_X12_mixCircuit_L69b (nI c) (f_X12_mixCircuit_L69 (nI c) n') (M5 μ w) (nI N))
    unfold f_X11_mixCircuit_L77b f_X12_mixCircuit_L69b
    unfold chk
    rw [if_pos i1, c1, M5_1, ex, en, if_neg (nI_nlt (Nat.le_refl N) (by omega)), if_neg (nI_nlt (Nat.le_refl N) (by omega))]
    exact ⟨w, rfl, rfl⟩
theorem mix_route {W H S T k : Nat} {σ μ : St} (h : RelP W H S T k σ μ) {c : Nat} (hc : c < 8) (hl : live μ c) (w : Int64) : EI μ (f_X11_mixCircuit_L46 σ c FU w 0) (f_X12_mixCircuit_L33 (nI c) FU (M5 μ w) 0) := by
  obtain ⟨q, o, -⟩ := h.of_live hc hl
  obtain ⟨hp, g1, g2, f1, f2, f3⟩ := h.hops hc hl
  have i1 : inb (nI c) 8 := inbL hc (by decide)
  have c1 : Int32.toNatClampNeg (nI c) = c := clL (by omega)
  have e2 : nI hp + 2 = nI (hp + 2) := nI_add hp 2
  refine loop2 (EI μ) (fun n w v => f_X11_mixCircuit_L46 σ c n w v) (fun n s v => f_X12_mixCircuit_L33 (nI c) n s v) (M5 μ) (hp + 2) ?_ ?_ (hp + 2) 0 FU FU w (by omega) (FU_lt (by omega)) (FU_lt (by omega))
  · intro n n' t w ht ih
    show EI μ (f_X11_mixCircuit_L46b σ c (f_X11_mixCircuit_L46 σ c n) w (nI t)) (f_X12_mixCircuit_L33b (nI c) (f_X12_mixCircuit_L33 (nI c) n') (M5 μ w) (nI t))
    have e8 : 8 * nI c + nI t = nI (8 * c + t) := by rw [show (8 : Int32) = nI 8 from rfl, nI_mul, nI_add]
    have i2 : inb (nI (8 * c + t)) 64 := inbL (by omega) (by decide)
    unfold f_X11_mixCircuit_L46b f_X12_mixCircuit_L33b
    unfold chk
    rw [if_pos i1, c1, M5_1, f1, e2, places_eq f2 g2, Option.bind_some, if_pos (nI_lt ht (by omega)), if_pos (nI_lt ht (by omega)), linkAt_eq (by omega), e8, if_pos i2, clL (by omega), Option.bind_some, mixM, q.2.2.2.2.2.2.2.2.2.2.2.2.2.2.1 t (by omega)]
    show EI μ (f_X11_mixCircuit_L46 σ c n (31 * w + Int32.toInt64 (μ.1 16 0 (8 * c + t))) (nI t + 1)) (f_X12_mixCircuit_L33 (nI c) n' (M5 μ (31 * w + Int32.toInt64 (μ.1 16 0 (8 * c + t)))) (nI t + 1))
    rw [nI_1]
    exact ih _
  · intro n n' w
    show EI μ (f_X11_mixCircuit_L46b σ c (f_X11_mixCircuit_L46 σ c n) w (nI (hp + 2))) (f_X12_mixCircuit_L33b (nI c) (f_X12_mixCircuit_L33 (nI c) n') (M5 μ w) (nI (hp + 2)))
    unfold f_X11_mixCircuit_L46b f_X12_mixCircuit_L33b
    unfold chk
    rw [if_pos i1, c1, M5_1, f1, e2, places_eq f2 g2, Option.bind_some, if_neg (nI_nlt (Nat.le_refl _) (by omega)), if_neg (nI_nlt (Nat.le_refl _) (by omega))]
    exact mix_starts h hc hl w
theorem mix_circ {W H S T k : Nat} {σ μ : St} (h : RelP W H S T k σ μ) (hk : k ≤ 513) {c : Nat} (hc : c < 8) (hl : live μ c) (w : Int64) : EI μ (f_X11_mixCircuit σ w c) (f_X12_mixCircuit (M5 μ w) (nI c)) := by
  have ec := (h.2.2.2.2.1 c hc).1
  unfold f_X11_mixCircuit f_X12_mixCircuit
  rw [ec, mixM]
  show EI μ (f_X11_mixCircuit_L13 σ c FU (31 * w + Int32.toInt64 (nI c)) 0) (f_X12_mixCircuit_L8 (nI c) FU (M5 μ (31 * w + Int32.toInt64 (nI c))) 0)
  generalize 31 * w + Int32.toInt64 (nI c) = w
  refine loop2 (EI μ) (fun n w v => f_X11_mixCircuit_L13 σ c n w v) (fun n s v => f_X12_mixCircuit_L8 (nI c) n s v) (M5 μ) 15 ?_ ?_ 15 0 FU FU w (by omega) (FU_lt (by omega)) (FU_lt (by omega))
  · intro n n' t w ht ih
    show EI μ (f_X11_mixCircuit_L13b σ c (f_X11_mixCircuit_L13 σ c n) w (nI t)) (f_X12_mixCircuit_L8b (nI c) (f_X12_mixCircuit_L8 (nI c) n') (M5 μ w) (nI t))
    have l1 : nI t ≤ 14 := show nI t ≤ nI 14 from nI_le (by omega) (by decide)
    have l2 : nI t < 15 := ltL 15 15 rfl ht (by decide)
    obtain ⟨r, r1, r2⟩ := circ_tell (h.m5 w) hk hc hl ht
    unfold f_X11_mixCircuit_L13b f_X12_mixCircuit_L8b
    rw [if_pos l1, if_pos l2, ec, r1, r2, Option.bind_some, Option.bind_some, mixM]
    show EI μ (f_X11_mixCircuit_L13 σ c n (31 * w + Int32.toInt64 r) (nI t + 1)) (f_X12_mixCircuit_L8 (nI c) n' (M5 μ (31 * w + Int32.toInt64 r)) (nI t + 1))
    rw [nI_1]
    exact ih _
  · intro n n' w
    show EI μ (f_X11_mixCircuit_L13b σ c (f_X11_mixCircuit_L13 σ c n) w (nI 15)) (f_X12_mixCircuit_L8b (nI c) (f_X12_mixCircuit_L8 (nI c) n') (M5 μ w) (nI 15))
    unfold f_X11_mixCircuit_L13b f_X12_mixCircuit_L8b
    rw [if_neg (by decide), if_neg (by decide)]
    exact mix_route h hc hl w
