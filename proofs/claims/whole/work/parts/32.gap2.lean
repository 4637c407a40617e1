theorem bz1 (b : Bool) : (bz b = 1) = (b = true) := by cases b <;> simp [bz]
theorem foldl_r' {α : Type} (f : α → Nat → α) (t m : Nat) (a : α) : (List.range' t (m + 1)).foldl f a = (List.range' (t + 1) m).foldl f (f a t) := by rw [List.range'_succ]; rfl
theorem loopI {A R : Type} (f : Nat → A → Int32 → Option R) (res : Nat → Nat → A → Option R) (N : Nat) (I : Nat → A → Prop) (hs : ∀ n m t a, t + (m + 1) = N → I t a → (∀ b, I (t + 1) b → f n b (nI (t + 1)) = res m (t + 1) b) → f (n + 1) a (nI t) = res (m + 1) t a) (he : ∀ n a, I N a → f (n + 1) a (nI N) = res 0 N a) :
    ∀ m t n a, t + m = N → m < n → I t a → f n a (nI t) = res m t a := by
  intro m
  induction m with
  | zero =>
    intro t n a h1 h2 h3
    obtain ⟨n, rfl⟩ : ∃ j, n = j + 1 := ⟨n - 1, by omega⟩
    have e : t = N := by omega
    subst e
    exact he n a h3
  | succ m ih =>
    intro t n a h1 h2 h3
    obtain ⟨n, rfl⟩ : ∃ j, n = j + 1 := ⟨n - 1, by omega⟩
    exact hs n m t a h1 h3 (fun b hb => ih (t + 1) n b (by omega) (by omega) hb)
theorem gapX_eq {st S : Nat} (h1 : st < 1024) (h2 : S ≤ 10) : f_X7_gapOf (nI st) (nI S) = some (nI (gapXn st S)) := by
  have key := loopI (A := Nat × Option Nat) (fun n a v => f_X7_gapOf_L7 (nI st) (nI S) n (nI a.1) (oI a.2) v) (fun m t a => some (nI ((List.range' t m).foldl (gapXs st S) a).1)) (2 * S) (fun t a => (∀ b, a.2 = some b → b < t) ∧ a.1 ≤ t) ?_ ?_ (2 * S) 0 FU (0, none) (by omega) (FU_lt (by omega)) ⟨fun b h => (by cases h), Nat.le_refl 0⟩
  · unfold gapXn
    rw [List.range_eq_range']
    exact key
  · intro n m t a ht hI ih
    obtain ⟨g, o⟩ := a
    obtain ⟨i1, i2⟩ := hI
    have i2 : g ≤ t := i2
    rw [foldl_r']
    show f_X7_gapOf_L7b (nI st) (nI S) (f_X7_gapOf_L7 (nI st) (nI S) n) (nI g) (oI o) (nI t) = _
    have hsl : (2 : Int32) * nI S = nI (2 * S) := by rw [show (2 : Int32) = nI 2 from rfl, nI_mul]
    have c1 : nI t < nI (2 * S) := nI_lt (by omega) (by omega)
    have hstep : f_X7_gapOf_L7b (nI st) (nI S) (f_X7_gapOf_L7 (nI st) (nI S) n) (nI g) (oI o) (nI t) = f_X7_gapOf_L7 (nI st) (nI S) n (nI (gapXs st S (g, o) t).1) (oI (gapXs st S (g, o) t).2) (nI (t + 1)) := by
      generalize f_X7_gapOf_L7 (nI st) (nI S) n = K
      simp only [f_X7_gapOf_L7b, hsl, if_pos c1, bnd, nI_1]
      have body : ∀ s, s < 16 → (if ((nI st >>> (nI s &&& 31)) &&& 1) = 1 then (if oI o = -1 then K (nI g) (nI t) (nI (t + 1)) else K (if nI g < nI t - oI o then nI t - oI o else nI g) (nI t) (nI (t + 1))) else K (nI g) (oI o) (nI (t + 1))) = K (nI (gx1 (st.testBit s) g o t).1) (oI (gx1 (st.testBit s) g o t).2) (nI (t + 1)) := by
        intro s hs
        rw [shr_bit2 h1 hs]
        simp only [bz1]
        cases st.testBit s
        · simp [gx1]
        · cases o with
          | none => simp [oI, gx1, gupd]
          | some b =>
            have hb := i1 b rfl
            have hne : ¬ nI b = -1 := nI_nm1 (by omega)
            simp only [oI, gx1, gupd, if_true, if_neg hne, nI_sub (show b ≤ t by omega)]
            by_cases q : g < t - b
            · rw [if_pos (nI_lt q (by omega)), if_pos q]
            · rw [if_neg (nI_nlt (show t - b ≤ g by omega) (by omega)), if_neg q]
      by_cases q : t < S
      · rw [if_pos (nI_lt q (by omega)), body t (by omega)]
        simp only [gapXs, if_pos q]
      · rw [if_neg (nI_nlt (show S ≤ t by omega) (by omega)), nI_sub (show S ≤ t by omega), body (t - S) (by omega)]
        simp only [gapXs, if_neg q]
    rw [hstep]
    refine ih (gapXs st S (g, o) t) ⟨fun b hb => ?_, ?_⟩
    · unfold gapXs gx1 at hb
      cases hq : st.testBit (if t < S then t else t - S)
      · rw [hq] at hb
        have := i1 b hb
        omega
      · rw [hq] at hb
        cases hb
        omega
    · unfold gapXs gx1
      cases hq : st.testBit (if t < S then t else t - S)
      · show g ≤ t + 1; omega
      · show gupd g o t ≤ t + 1
        unfold gupd
        cases o with
        | none => show g ≤ t + 1; omega
        | some b => show (if g < t - b then t - b else g) ≤ t + 1; split <;> omega
  · intro n a hI
    show f_X7_gapOf_L7b (nI st) (nI S) (f_X7_gapOf_L7 (nI st) (nI S) n) (nI a.1) (oI a.2) (nI (2 * S)) = _
    have hsl : (2 : Int32) * nI S = nI (2 * S) := by rw [show (2 : Int32) = nI 2 from rfl, nI_mul]
    simp only [f_X7_gapOf_L7b, hsl, if_neg (nI_nlt (Nat.le_refl (2 * S)) (show 2 * S < 2 ^ 31 by omega))]
    rfl
theorem gapM_in {μ : St} {st S : Nat} (e : μ.1 0 0 2 = nI S) (h1 : st < 1024) (h2 : 0 < S ∧ S ≤ 10) (K : Int32 → Int32 → Option Int32) (a t : Nat) (ht : t < S) (ha : a ≤ 100) : ∀ f x n, x + f = 12 → f < n → 1 ≤ x → x ≤ S + 1 → f_X12_gapOf_L15 K μ (nI st) (nI a) (nI t) n (nI x) = K (nI (if st.testBit t then (if a < nextM st S t f x then nextM st S t f x else a) else a)) (nI (t + 1)) := by
  intro f
  induction f with
  | zero =>
    intro x n hx hn h3 h4
    omega
  | succ f ih =>
    intro x n hx hn h3 h4
    obtain ⟨n, rfl⟩ : ∃ j, n = j + 1 := ⟨n - 1, by omega⟩
    show f_X12_gapOf_L15b K μ (nI st) (nI a) (nI t) (f_X12_gapOf_L15 K μ (nI st) (nI a) (nI t) n) (nI x) = _
    have hmod : (t + x) % S < S := Nat.mod_lt _ h2.1
    have fin : ((f_X12_isBit (nI st) (nI t)).bind fun r2 => if r2 = 0 then K (nI a) (nI (t + 1)) else if nI a < nI x then K (nI x) (nI (t + 1)) else K (nI a) (nI (t + 1))) = K (nI (if st.testBit t then (if a < x then x else a) else a)) (nI (t + 1)) := by
      rw [isBit_eq h1 (show t < 16 by omega)]
      simp only [Option.bind_some, bz_0]
      cases st.testBit t
      · simp
      · by_cases q : a < x
        · simp [q, nI_lt q (show x < 2 ^ 31 by omega)]
        · simp [q, nI_nlt (show x ≤ a by omega) (show a < 2 ^ 31 by omega)]
    simp only [f_X12_gapOf_L15b, chk, e, if_pos (nI_ne0 h2.1 (show S < 2 ^ 31 by omega)), nI_add, nI_rem (show t + x < 2 ^ 31 by omega) (show S < 2 ^ 31 by omega), isBit_eq h1 (show (t + x) % S < 16 by omega), Option.bind_some, nI_1]
    rw [show (f_X12_isBit (nI st) (nI t)) = some (bz (st.testBit t)) from isBit_eq h1 (show t < 16 by omega)] at fin ⊢
    simp only [Option.bind_some] at fin ⊢
    rw [fin]
    unfold nextM
    cases hq : st.testBit ((t + x) % S)
    · by_cases q : x < S
      · simp only [bz_0, if_true, if_pos (nI_lt q (show S < 2 ^ 31 by omega)), Bool.false_eq_true, if_false, if_pos q]
        exact ih (x + 1) n (by omega) (by omega) (by omega) (by omega)
      · simp only [bz_0, if_true, if_neg (nI_nlt (show S ≤ x by omega) (show x < 2 ^ 31 by omega)), Bool.false_eq_true, if_false, if_neg q]
    · simp only [bz_0, Bool.true_eq_false, if_false, if_true]
theorem nextM_le {st S t : Nat} : ∀ f x, x ≤ S + 1 → nextM st S t f x ≤ S + 1 := by
  intro f
  induction f with
  | zero => intro x h; exact h
  | succ f ih =>
    intro x h
    unfold nextM
    split
    · exact h
    · split
      · exact ih (x + 1) (by omega)
      · exact h
theorem gapM_eq {μ : St} {st S : Nat} (e : μ.1 0 0 2 = nI S) (h1 : st < 1024) (h2 : 0 < S ∧ S ≤ 10) : f_X12_gapOf μ (nI st) = some (nI (gapMn st S)) := by
  have key := loopI (A := Nat) (fun n a v => f_X12_gapOf_L4 μ (nI st) n (nI a) v) (fun m t a => some (nI ((List.range' t m).foldl (gapMs st S) a))) S (fun t a => a ≤ 11) ?_ ?_ S 0 FU 0 (by omega) (FU_lt (by omega)) (by omega)
  · unfold gapMn
    rw [List.range_eq_range']
    exact key
  · intro n m t a ht hI ih
    rw [foldl_r']
    show f_X12_gapOf_L4b μ (nI st) (f_X12_gapOf_L4 μ (nI st) n) (nI a) (nI t) = _
    simp only [f_X12_gapOf_L4b, e, if_pos (nI_lt (show t < S by omega) (show S < 2 ^ 31 by omega))]
    have h3 := gapM_in e h1 h2 (f_X12_gapOf_L4 μ (nI st) n) a t (by omega) (by omega) 11 1 FU (by omega) (FU_lt (by omega)) (by omega) (by omega)
    rw [show (1 : Int32) = nI 1 from rfl, h3]
    have hle := nextM_le (st := st) (t := t) 11 1 (show 1 ≤ S + 1 by omega)
    refine ih (gapMs st S a t) ?_
    unfold gapMs
    split
    · split <;> omega
    · exact hI
  · intro n a hI
    show f_X12_gapOf_L4b μ (nI st) (f_X12_gapOf_L4 μ (nI st) n) (nI a) (nI S) = _
    simp only [f_X12_gapOf_L4b, e, if_neg (nI_nlt (Nat.le_refl S) (show S < 2 ^ 31 by omega))]
    rfl
