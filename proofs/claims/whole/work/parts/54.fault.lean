/-! the reading's loop, fault -/
theorem tk_all {v g : Nat} {σ μ : St} (h : Rd v g σ μ) (hv : v < 100) (c : Int32) : TK v σ μ c := by
  obtain ⟨hg, h'⟩ := id h
  rcases h' with ⟨a, b, -⟩ | ⟨a, -⟩ | ⟨a, b, -⟩ | ⟨a, b, -⟩ | ⟨a, b, -⟩ | ⟨W, H, S, q, hG, h4, h10, e1, e2, g6, g8, ev, e8⟩
  · subst a; subst b; exact tk0 h c
  · rcases a with ⟨a, b⟩ | ⟨a, b⟩
    · subst a; subst b; exact tk1 h c
    · subst a; subst b; exact tk2 h c
  · subst a; subst b; exact tk3 h c
  · subst a; subst b; exact tk4 h c
  · subst a; subst b; exact tk5 h c
  · have : g = 6 ∨ g = 7 ∨ g = 8 := by omega
    rcases this with a | a | a
    · subst a; exact tk6 hg hG h4 h10 e1 e2 (by omega) hv c
    · subst a; exact tk7 hg hG h4 h10 e1 e2 (by omega) hv c
    · subst a
      obtain ⟨a, h1, h2, h3⟩ := e8 rfl
      exact tk8 hg hG h4 h10 e1 e2 (by omega) hv h1 h2 h3 c
/-- the class's word whether the text is whole -/
theorem Rd.full {v g : Nat} {σ μ : St} (h : Rd v g σ μ) (hv : v < 100) : ∃ b : Bool, (if 4 ≤ (σ.1 5 0 3) then ((f_X5_partOfBreak σ (nI v)).bind fun r10 => if r10 = 0 then some (si σ 5 0 4 1, nI v) else some (si σ 5 0 4 0, nI v)) else some (si σ 5 0 4 0, nI v)) = some (si σ 5 0 4 (bz b), nI v) ∧ (b = true ↔ μ.1 0 0 39 = 6) := by
  obtain ⟨hg, h'⟩ := h
  have no : ∀ x : Int32, x = 0 ∨ x = 1 → ¬ 4 ≤ x := by rintro x (rfl | rfl) <;> decide
  have fin : (σ.1 5 0 3 = 0 ∨ σ.1 5 0 3 = 1) → g < 6 → ∃ b : Bool, (if 4 ≤ (σ.1 5 0 3) then ((f_X5_partOfBreak σ (nI v)).bind fun r10 => if r10 = 0 then some (si σ 5 0 4 1, nI v) else some (si σ 5 0 4 0, nI v)) else some (si σ 5 0 4 0, nI v)) = some (si σ 5 0 4 (bz b), nI v) ∧ (b = true ↔ μ.1 0 0 39 = 6) := by
    intro hx hg6
    refine ⟨false, by rw [if_neg (no _ hx)]; rfl, fun z => absurd z (by decide), fun z => ?_⟩
    rw [hg] at z
    exact absurd z (neL 6 6 rfl (by omega) (by omega) (by decide))
  rcases h' with ⟨a, b, z, -⟩ | ⟨a, z, -⟩ | ⟨a, b, z, -⟩ | ⟨a, b, z, -⟩ | ⟨a, b, z, -⟩ | ⟨W, H, S, q, hG, h4, h10, e1, e2, g6, g8, ev, e8⟩
  · exact fin (Or.inl z) (by omega)
  · exact fin (Or.inl z) (by omega)
  · exact fin (Or.inl z) (by omega)
  · exact fin (Or.inl z) (by omega)
  · exact fin (Or.inr z) (by omega)
  · rw [part_eq (r := g - 6) h4 h10 e1 (by omega) ev hv, e1, if_pos (leL 4 4 rfl h4 (by omega)), Option.bind_some]
    by_cases y : g = 6
    · subst y
      exact ⟨true, by rw [if_pos (show nI (6 - 6) = 0 from rfl)]; rfl, fun _ => hg, fun _ => rfl⟩
    · refine ⟨false, by rw [if_neg (neL 0 0 rfl (by omega) (by omega) (by decide))]; rfl, fun z => absurd z (by decide), fun z => ?_⟩
      rw [hg] at z
      exact absurd z (neL 6 6 rfl y (by omega) (by decide))
/-- what both have when they end a reading -/
def RE (σ μ : St) (L : Nat) (a : Option (St × Int32)) (b : Option (St × Int32)) : Prop := ∃ σ2 μ2 r, a = some (σ2, nI r) ∧ b = some (μ2, nI r) ∧ KX σ σ2 ∧ KM μ μ2 ∧ r ≤ L ∧ ∃ f : Bool, σ2.1 5 0 4 = bz f ∧ (f = true ↔ r = L ∧ μ2.1 0 0 39 = 6) ∧ (f = true → ∃ g s, Rd L g s μ2 ∧ σ2 = si s 5 0 4 1)
theorem read_loop {σ0 μ0 : St} {L : Nat} (hL : L ≤ 30) (eL : σ0.1 5 0 0 = nI L) (mL : μ0.1 0 0 7 = nI L) (hc : ∀ j, j < L → σ0.1 12 0 j = μ0.1 8 0 j) : ∀ m v fu fu' g (σ μ : St), v + m = L → m < fu → m < fu' → KX σ0 σ → KM μ0 μ → Rd v g σ μ → RE σ0 μ0 L (f_X5_read_L7 fu σ (nI v)) (f_X12_read_L28 fu' μ (nI v)) := by
  intro m
  induction m with
  | zero =>
    intro v fu fu' g σ μ h1 h2 h3 kx km hR
    obtain ⟨fu, rfl⟩ : ∃ j, fu = j + 1 := ⟨fu - 1, by omega⟩
    obtain ⟨fu', rfl⟩ : ∃ j, fu' = j + 1 := ⟨fu' - 1, by omega⟩
    have e : v = L := by omega
    subst e
    have x0 : σ.1 5 0 0 = nI v := kx.2.2.2.2.trans eL
    have m0 : μ.1 0 0 7 = nI v := (km.2.2 7 (by decide)).trans mL
    obtain ⟨b, b1, b2⟩ := hR.full (by omega)
    refine ⟨si σ 5 0 4 (bz b), μ, v, ?_, ?_, kx.tr (KX.s5 (by decide)), km, Nat.le_refl v, b, si_eq, ⟨fun z => ⟨rfl, b2.mp z⟩, fun z => b2.mpr z.2⟩, fun z => ⟨g, σ, hR, by rw [z]; rfl⟩⟩
    · show f_X5_read_L7b (f_X5_read_L7 fu) σ (nI v) = _
      unfold f_X5_read_L7b
      rw [x0, if_neg (nI_nlt (Nat.le_refl v) (by omega)), if_pos rfl]
      exact b1
    · show f_X12_read_L28b (f_X12_read_L28 fu') μ (nI v) = _
      unfold f_X12_read_L28b
      rw [m0, if_neg (nI_nlt (Nat.le_refl v) (by omega))]
  | succ m ih =>
    intro v fu fu' g σ μ h1 h2 h3 kx km hR
    obtain ⟨fu, rfl⟩ : ∃ j, fu = j + 1 := ⟨fu - 1, by omega⟩
    obtain ⟨fu', rfl⟩ : ∃ j, fu' = j + 1 := ⟨fu' - 1, by omega⟩
    have x0 : σ.1 5 0 0 = nI L := kx.2.2.2.2.trans eL
    have m0 : μ.1 0 0 7 = nI L := (km.2.2 7 (by decide)).trans mL
    have i1 : inb (nI v) 30 := inbL (by omega) (by decide)
    have c1 : Int32.toNatClampNeg (nI v) = v := clL (by omega)
    have hcv : σ.1 12 0 v = μ.1 8 0 v := by
      rw [kx.2.1 12 (by decide) (by decide) (by decide) (by decide), km.2.1 8 (by decide) (by decide)]
      exact hc v (by omega)
    have r1 : f_X5_codeAt σ (nI v) = some (μ.1 8 0 v) := by
      unfold f_X5_codeAt chk
      rw [if_pos (leL 0 0 rfl (Nat.zero_le v) (by omega)), if_neg (nleL 30 30 rfl (by omega) (by decide)), if_pos i1, c1, hcv]
    obtain ⟨σ2, μ2, b, t1, t2, k1, k2, hz, hn⟩ := tk_all hR (by omega) (μ.1 8 0 v)
    have lt := nI_lt (show v < L by omega) (show L < 2 ^ 31 by omega)
    have ex : f_X5_read_L7 (fu + 1) σ (nI v) = if b = 0 then some (si σ2 5 0 4 0, nI v) else f_X5_read_L7 fu σ2 (nI (v + 1)) := by
      show f_X5_read_L7b (f_X5_read_L7 fu) σ (nI v) = _
      have y0 : σ2.1 5 0 0 = nI L := k1.2.2.2.2.trans x0
      unfold f_X5_read_L7b bnd
      rw [x0, if_pos lt, r1, Option.bind_some, t1, Option.bind_some]
      dsimp only
      rw [y0, if_neg (show ¬ nI v = nI L from fun z => by have := nI_inj (by omega) (by omega) z; omega), nI_1]
    have em : f_X12_read_L28 (fu' + 1) μ (nI v) = if b = 0 then some (μ2, nI v) else f_X12_read_L28 fu' μ2 (nI (v + 1)) := by
      show f_X12_read_L28b (f_X12_read_L28 fu') μ (nI v) = _
      unfold f_X12_read_L28b chk
      rw [m0, if_pos lt, if_pos i1, c1, t2, Option.bind_some, nI_1]
    rw [ex, em]
    rcases hz with z | z
    · subst z
      rw [if_pos rfl, if_pos rfl]
      exact ⟨si σ2 5 0 4 0, μ2, v, rfl, rfl, (kx.tr k1).tr (KX.s5 (by decide)), km.tr k2, by omega, false, si_eq, ⟨fun z => absurd z (by decide), fun z => by omega⟩, fun z => absurd z (by decide)⟩
    · obtain ⟨g2, hR2⟩ := hn z
      subst z
      rw [if_neg (by decide), if_neg (by decide)]
      exact ih (v + 1) fu fu' g2 σ2 μ2 (by omega) (by omega) (by omega) (kx.tr k1) (km.tr k2) hR2
theorem read_first {σ μ : St} {L : Nat} (hL : L ≤ 30) (eL : σ.1 5 0 0 = nI L) (mL : μ.1 0 0 7 = nI L) (hc : ∀ j, j < L → σ.1 12 0 j = μ.1 8 0 j) (fx : Nat) (hf : 60 < fx) : ∀ fu, 60 < fu → RE σ μ L (f_X5_read_L7 fx (si σ 5 0 3 0) (nI 0)) (f_X12_read_L7 fu (si μ 0 0 39 0) (nI 0)) := by
  intro fu hfu
  have key : ∀ s, KM μ s → s.1 0 0 39 = 0 → Zb s → RE σ μ L (f_X5_read_L7 fx (si σ 5 0 3 0) (nI 0)) (f_X12_read_L28 FU s (nI 0)) := fun s k1 k2 k3 =>
    read_loop hL eL mL hc L 0 fx FU 0 (si σ 5 0 3 0) s (by omega) (by omega) (FU_lt (by omega)) (KX.s5 (by decide)) k1 ⟨k2, Or.inl ⟨rfl, rfl, si_eq, k3⟩⟩
  refine loopP (fun n s v => f_X12_read_L7 n s v) (fun r => RE σ μ L (f_X5_read_L7 fx (si σ 5 0 3 0) (nI 0)) r) 54 (fun t s => KM μ s ∧ s.1 0 0 39 = 0 ∧ ∀ l, l < t → s.1 44 0 l = 0) ?_ ?_ 54 0 fu (si μ 0 0 39 0) (by omega) (by omega) ⟨KM.s0 (by decide), si_eq, fun l hl => absurd hl (Nat.not_lt_zero l)⟩
  · rintro n t s ht ⟨k1, k2, k3⟩ ih
    show RE σ μ L _ (f_X12_read_L7b (f_X12_read_L7 n) s (nI t))
    unfold f_X12_read_L7b chk bnd
    rw [if_pos (ltL 54 54 rfl ht (by decide)), if_pos (inbL ht (by decide)), clL (by omega), nI_1]
    refine ih _ ⟨k1.tr KM.s44, by rw [si_k (by decide)]; exact k2, fun l hl => ?_⟩
    by_cases q : l = t
    · subst q; exact si_eq
    · rw [si_j q]; exact k3 l (by omega)
  · rintro n s ⟨k1, k2, k3⟩
    show RE σ μ L _ (f_X12_read_L7b (f_X12_read_L7 n) s (nI 54))
    unfold f_X12_read_L7b
    rw [if_neg (by decide)]
    exact key s k1 k2 k3
theorem bnd_eq {α β : Type} (x : α) (k : α → Option β) : bnd x k = k x := rfl
theorem readX (σ : St) : f_X5_read σ = f_X5_read_L7 FU (si σ 5 0 3 0) 0 := (show f_X5_read σ = bnd (si σ 5 0 3 0) (fun σ1 => f_X5_read_L7 FU σ1 0) from rfl).trans (bnd_eq _ _)
theorem readM (μ : St) : f_X12_read μ = f_X12_read_L7 FU (si μ 0 0 39 0) 0 := (show f_X12_read μ = bnd (si μ 0 0 39 0) (fun σ1 => f_X12_read_L7 FU σ1 0) from rfl).trans (bnd_eq _ _)
theorem read_both {W H S T k : Nat} {σ μ : St} (h : RelP W H S T k σ μ) : ∃ L, L ≤ 30 ∧ σ.1 5 0 0 = nI L ∧ μ.1 0 0 7 = nI L ∧ RE σ μ L (f_X5_read σ) (f_X12_read μ) := by
  obtain ⟨⟨L, -, hL, eL⟩, mL, hc⟩ := h.2.2.1
  have eN : nN (σ.1 5 0 0) = L := by unfold nN; rw [eL, clL (by omega)]
  rw [eN] at hc
  rw [eL] at mL
  refine ⟨L, hL, eL, mL, ?_⟩
  rw [readX, readM]
  exact read_first hL eL mL (fun j hj => (hc j hj).1) FU (FU_lt (by omega)) FU (FU_lt (by omega))
theorem ok_fault_Rel : ok_fault Rel := by
  intro k σ μ hk ⟨W, H, S, T, hR0⟩
  have hR := hR0.mono
  obtain ⟨L, -, -, -, σ2, μ2, r, a1, a2, kx, km, -⟩ := read_both hR
  refine ⟨σ2, μ2, nI r, ?_, ?_, W, H, S, T, KX.rel hR kx km⟩
  · simp only [f_X11_fault, a1, Option.bind_some]
  · simp only [f_X12_fault, a2, Option.bind_some]
