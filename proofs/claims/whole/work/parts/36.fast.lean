/-! fastest -/
theorem if_some {α : Type} {c : Prop} [Decidable c] {a b : α} : (if c then some a else some b) = some (if c then a else b) := by
  by_cases h : c
  · rw [if_pos h, if_pos h]
  · rw [if_neg h, if_neg h]
theorem sp64 (x : Nat) (hx : x < 2 ^ 31) : Int32.toInt64 (if 1 < nI x then nI x else 1) = if x = 0 then 1 else Int32.toInt64 (nI x) := by
  by_cases h0 : x = 0
  · subst h0; rfl
  · rw [if_neg h0]
    by_cases h1 : x = 1
    · subst h1; rfl
    · rw [if_pos (show (1 : Int32) < nI x from nI_lt (a := 1) (by omega) hx)]
theorem faster_both {W H S T k : Nat} {σ μ : St} (h : RelP W H S T k σ μ) (hk : k ≤ 513) {c d : Nat} (hc : c < 8) (hd : d < 8) (lc : live μ c) (ld : live μ d) : ∃ r, f_X2_isFasterThan σ c d (nI T) = some r ∧ f_X12_isFaster μ (nI c) (nI d) = some r := by
  obtain ⟨q, o, -⟩ := h.of_live hc lc
  obtain ⟨q', o', -⟩ := h.of_live hd ld
  obtain ⟨a, -, a1, a2⟩ := o.2.2.2.2.2.2.2.2.2.1
  obtain ⟨b, -, b1, b2⟩ := o'.2.2.2.2.2.2.2.2.2.1
  have z1 := o.2.2.2.2.2.2.2.2.2.2.1
  have z2 := o'.2.2.2.2.2.2.2.2.2.2.1
  have hT := h.2.1
  have e1 : σ.1 2 c 14 = nI a := q.2.2.2.2.2.2.2.2.2.2.2.2.2.1.trans a2
  have e2 : σ.1 2 d 14 = nI b := q'.2.2.2.2.2.2.2.2.2.2.2.2.2.1.trans b2
  have e3 : σ.1 2 c 12 = μ.1 22 0 c := q.2.2.2.2.2.2.2.2.2.2.2.1
  have e4 : σ.1 2 d 12 = μ.1 22 0 d := q'.2.2.2.2.2.2.2.2.2.2.2.1
  have t1 : nI T - nI a = nI (T - a) := nI_sub a1
  have t2 : nI T - nI b = nI (T - b) := nI_sub b1
  have hmT : μ.1 0 0 3 = nI T := h.2.2.2.1.2.2.2.2.2.2.2.1
  have hx : f_X2_isFasterThan σ c d (nI T) = some (if 0 < lg_cmp (Int32.toInt64 (μ.1 22 0 c) * (if T - b = 0 then 1 else Int32.toInt64 (nI (T - b)))) (Int32.toInt64 (μ.1 22 0 d) * (if T - a = 0 then 1 else Int32.toInt64 (nI (T - a)))) then 1 else 0) := by
    simp only [f_X2_isFasterThan, bnd, e1, e2, e3, e4, t1, t2, sp64 (T - a) (by omega), sp64 (T - b) (by omega)]
    rw [if_some]
  refine ⟨_, hx, ?_⟩
  have i1 : inb (nI c) 8 := inbL hc (by decide)
  have i2 : inb (nI d) 8 := inbL hd (by decide)
  simp only [f_X12_isFaster, chk, if_pos i1, if_pos i2, bnd, clL (show c < 2 ^ 31 by omega), clL (show d < 2 ^ 31 by omega), hmT, a2, b2, t1, t2]
  by_cases x : T - a = 0
  · have hd0 : μ.1 22 0 c = 0 := z1 (by rw [a2]; congr 1; omega)
    have x2 : nI (T - a) = 0 := by rw [x]; rfl
    rw [if_pos x2, if_pos x, hd0]
    by_cases y : T - b = 0
    · have hd1 : μ.1 22 0 d = 0 := z2 (by rw [b2]; congr 1; omega)
      have y2 : nI (T - b) = 0 := by rw [y]; rfl
      rw [if_pos y2, if_pos y2, if_pos x2, if_pos y, hd1]
      rfl
    · have y2 : ¬ nI (T - b) = 0 := nI_ne0 (by omega) (by omega)
      rw [if_neg y2, if_neg y2, if_pos x2, if_neg y]
      rw [show Int32.toInt64 0 = 0 from rfl]
      rw [if_some]
  · have x2 : ¬ nI (T - a) = 0 := nI_ne0 (by omega) (by omega)
    rw [if_neg x2, if_neg x]
    by_cases y : T - b = 0
    · have hd1 : μ.1 22 0 d = 0 := z2 (by rw [b2]; congr 1; omega)
      have y2 : nI (T - b) = 0 := by rw [y]; rfl
      rw [if_pos y2, if_pos y2, if_neg x2, if_pos y, hd1]
      rw [show Int32.toInt64 0 = 0 from rfl]
      rw [if_some]
    · have y2 : ¬ nI (T - b) = 0 := nI_ne0 (by omega) (by omega)
      rw [if_neg y2, if_neg y2, if_neg x2, if_neg y]
      rw [if_some]
def fst1 (μ : St) (t : Nat) (b : Option Nat) : Option Nat := match b with
  | none => some t
  | some d => if f_X12_isFaster μ (nI t) (nI d) = some 0 then some d else some t
def fst2 (μ : St) (t : Nat) (b : Option Nat) : Option Nat := if μ.1 9 0 t = 0 then b else fst1 μ t b
/-- the fastest of the circuits from t on -/
def fastF (μ : St) : Nat → Nat → Option Nat → Option Nat
  | 0, _, b => b
  | m + 1, t, b => fastF μ m (t + 1) (fst2 μ t b)
def okO (μ : St) (b : Option Nat) : Prop := ∀ d, b = some d → d < 8 ∧ live μ d
theorem fast_step {W H S T k : Nat} {σ μ : St} (h : RelP W H S T k σ μ) {t : Nat} (ht : t < 8) {b : Option Nat} (hb : okO μ b) : okO μ (fst2 μ t b) := by
  unfold fst2
  rcases h.live1 ht with ⟨l, -, e⟩ | ⟨l, -, e⟩
  · rw [if_neg (by rw [e]; decide)]
    cases b with
    | none => intro d hd; cases hd; exact ⟨ht, l⟩
    | some d0 =>
      intro d hd
      show d < 8 ∧ live μ d
      unfold fst1 at hd
      dsimp only at hd
      split at hd
      · cases hd; exact hb _ rfl
      · cases hd; exact ⟨ht, l⟩
  · rw [if_pos e]; exact hb
theorem fastX {W H S T k : Nat} {σ μ : St} (h : RelP W H S T k σ μ) (hk : k ≤ 513) : f_X3_fastestAt σ (nI T) = some (oI (fastF μ 8 0 none)) := by
  refine loopI (A := Option Nat) (fun n b v => f_X3_fastestAt_L4 σ (nI T) n b v) (fun m t b => some (oI (fastF μ m t b))) 8 (fun _ b => okO μ b) ?_ ?_ 8 0 FU none (by omega) (FU_lt (by omega)) (fun d hd => by cases hd)
  · intro n' m t b ht hI ih
    have h8 : t < 8 := by omega
    show f_X3_fastestAt_L4b σ (nI T) (f_X3_fastestAt_L4 σ (nI T) n') b (nI t) = _
    have hI2 := fast_step h h8 hI
    have ih2 := ih _ hI2
    unfold fastF
    rw [← ih2]
    simp only [f_X3_fastestAt_L4b, if_pos (ltL 8 8 rfl h8 (by decide)), h.find_n h8, Option.bind_some, nI_1]
    rcases h.live1 h8 with ⟨l, -, e⟩ | ⟨l, -, e⟩
    · have e0 : ¬ μ.1 9 0 t = 0 := by rw [e]; decide
      unfold fst2
      rw [if_neg e0, if_neg e0, onR_s h8]
      unfold fst1
      cases b with
      | none => rw [onR_n]
      | some d =>
        obtain ⟨d8, ld⟩ := hI d rfl
        obtain ⟨r, r1, r2⟩ := faster_both h hk h8 d8 l ld
        simp only [onR_s d8, r1, r2, Option.bind_some, Option.some.injEq]
        by_cases hr : r = 0
        · rw [if_pos hr, if_pos hr]
        · rw [if_neg hr, if_neg hr]
    · unfold fst2
      rw [if_pos e, if_pos e, onR_n]
  · intro n' b hI
    show f_X3_fastestAt_L4b σ (nI T) (f_X3_fastestAt_L4 σ (nI T) n') b (nI 8) = _
    simp only [f_X3_fastestAt_L4b]
    rw [if_neg (show ¬ nI 8 < 8 from by decide)]
    cases b with
    | none => rfl
    | some d =>
      obtain ⟨d8, ld⟩ := hI d rfl
      rw [onR_s d8, (h.2.2.2.2.1 d d8).1]
      rfl
theorem fastM {W H S T k : Nat} {σ μ : St} (h : RelP W H S T k σ μ) (hk : k ≤ 513) : f_X12_fastestNow μ = some (oI (fastF μ 8 0 none)) := by
  refine loopI (A := Option Nat) (fun n b v => f_X12_fastestNow_L4 μ n (oI b) v) (fun m t b => some (oI (fastF μ m t b))) 8 (fun _ b => okO μ b) ?_ ?_ 8 0 FU none (by omega) (FU_lt (by omega)) (fun d hd => by cases hd)
  · intro n' m t b ht hI ih
    have h8 : t < 8 := by omega
    show f_X12_fastestNow_L4b μ (f_X12_fastestNow_L4 μ n') (oI b) (nI t) = _
    have hI2 := fast_step h h8 hI
    have ih2 : f_X12_fastestNow_L4 μ n' (oI _) (nI (t + 1)) = _ := ih _ hI2
    unfold fastF
    rw [← ih2]
    simp only [f_X12_fastestNow_L4b, if_pos (ltL 8 8 rfl h8 (by decide)), chk, if_pos (inbL h8 (show 8 < 2 ^ 31 by decide)), clL (show t < 2 ^ 31 by omega), nI_1]
    rcases h.live1 h8 with ⟨l, -, e⟩ | ⟨l, -, e⟩
    · have e0 : ¬ μ.1 9 0 t = 0 := by rw [e]; decide
      unfold fst2
      rw [if_neg e0, if_neg e0]
      unfold fst1
      cases b with
      | none => rfl
      | some d =>
        obtain ⟨d8, ld⟩ := hI d rfl
        obtain ⟨r, r1, r2⟩ := faster_both h hk h8 d8 l ld
        simp only [show oI (some d) = nI d from rfl, if_neg (nI_nm1 (show d < 2 ^ 31 by omega)), r2, Option.bind_some, Option.some.injEq]
        by_cases hr : r = 0
        · rw [if_pos hr, if_pos hr]
          rfl
        · rw [if_neg hr, if_neg hr]
          rfl
    · unfold fst2
      rw [if_pos e, if_pos e]
  · intro n' b hI
    show f_X12_fastestNow_L4b μ (f_X12_fastestNow_L4 μ n') (oI b) (nI 8) = _
    simp only [f_X12_fastestNow_L4b]
    rw [if_neg (show ¬ nI 8 < 8 from by decide)]
    rfl
theorem ok_fastest_Rel : ok_fastest Rel := by
  intro k σ μ hk ⟨W, H, S, T, hR0⟩
  have hR := hR0.mono
  refine ⟨oI (fastF μ 8 0 none), ?_, ?_, W, H, S, T, hR⟩
  · simp only [f_X11_fastest, hR.2.2.2.1.2.2.2.1, fastX hR (by omega), Option.bind_some]
  · simp only [f_X12_fastest, fastM hR (by omega), Option.bind_some]
