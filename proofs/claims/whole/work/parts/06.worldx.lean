/-! the worlds: the cells of an object of the class (58), of the reference (37); a state is what they hold -/
abbrev St : Type := (Nat → Nat → Nat → Int32) × (Nat → Nat) × (Nat → Int64)
def si (σ : St) (k i j : Nat) (v : Int32) : St := (fun a b c => if a = k ∧ b = i ∧ c = j then v else σ.1 a b c, σ.2)
def sl (σ : St) (j v : Nat) : St := (σ.1, (fun c => if c = j then v else σ.2.1 c), σ.2.2)
def sL (σ : St) (j : Nat) (v : Int64) : St := (σ.1, σ.2.1, fun c => if c = j then v else σ.2.2 c)
def AdOK (n : Nat) (Ad : Nat → Nat) : Prop := ∀ a, a < n → ∀ b, b < n → Ad a = Ad b → a = b
def AdA (n : Nat) (Ad : Nat → Nat) : Nat → Prop := fun q => ∃ c, c < n ∧ q = Ad c
def wOf (n : Nat) (Ad : Nat → Nat) (f : Nat → va_E) : va_W := (List.range n).map (fun c => (Ad c, f c))
theorem wOf_at {n : Nat} {Ad : Nat → Nat} {f : Nat → va_E} (c : Nat) (h : c < n) : (wOf n Ad f)[c]? = some (Ad c, f c) := by
  simp [wOf, h]
theorem wOf_set {n : Nat} {Ad : Nat → Nat} {f f2 : Nat → va_E} (c : Nat) (h2 : ∀ d, d < n → d ≠ c → f2 d = f d) : (wOf n Ad f).set c (Ad c, f2 c) = wOf n Ad f2 := by
  apply List.ext_getElem?
  intro d
  rw [List.getElem?_set]
  by_cases hd : d < n
  · rw [wOf_at d hd]
    by_cases hc : c = d
    · subst hc
      have : c < (wOf n Ad f).length := by simp [wOf, hd]
      simp only [this, if_true]
      rw [wOf_at c hd]
    · rw [if_neg hc, wOf_at d hd, h2 d hd (fun e => hc e.symm)]
  · have l1 : ¬ d < (wOf n Ad f).length := by simp [wOf]; omega
    have e1 : (wOf n Ad f)[d]? = none := List.getElem?_eq_none (Nat.le_of_not_lt l1)
    have e2 : (wOf n Ad f2)[d]? = none := List.getElem?_eq_none (by simp [wOf]; omega)
    rw [e1, e2]
    by_cases hc : c = d
    · subst hc
      simp [l1]
    · simp [hc]
theorem wOf_D {n : Nat} {Ad : Nat → Nat} {f : Nat → va_E} (h : AdOK n Ad) : va_D (AdA n Ad) (wOf n Ad f) := by
  have key : ∀ (i : Nat) (p : Nat × va_E), (wOf n Ad f)[i]? = some p → i < n ∧ p = (Ad i, f i) := by
    intro i p hp
    by_cases hi : i < n
    · rw [wOf_at i hi] at hp
      exact ⟨hi, (Option.some.inj hp).symm⟩
    · rw [List.getElem?_eq_none (by simp [wOf]; omega)] at hp
      cases hp
  refine ⟨fun i j p q hp hq e => ?_, fun k q hk => ?_⟩
  · obtain ⟨h1, rfl⟩ := key i p hp
    obtain ⟨h2, rfl⟩ := key j q hq
    exact h i h1 j h2 e
  · obtain ⟨h1, rfl⟩ := key k q hk
    exact ⟨k, h1, rfl⟩
def bX (cy : Nat → ClassId) (Ad : Nat → Nat) (c : Nat) (f : Nat → Int32) (ln : Nat → Nat) : va_E :=
  if c < 14 then (match c with
    | 0 => .inr (10, [.ref (Ad 1), .ref (Ad 6), .ref (Ad 12), .ref (Ad 38), .ref (Ad 41), .ref (Ad 57), .int (f 6)])
    | 1 => .inr (5, [.int (f 0), .int (f 1), .int (f 2), .int (f 3), .int (f 4), .ref (Ad 2), .ref (Ad 3), .ref (Ad 5), .int (f 8)])
    | 2 => .inl (cy 0, 30, .inl f)
    | 3 => .inr (4, [.int (f 0), .int (f 1), .ref (Ad 4)])
    | 4 => .inl (cy 0, 54, .inl f)
    | 5 => .inl (cy 1, 54, .inl f)
    | 6 => .inr (1, [.ref (Ad 7), .int (f 1), .int (f 2), .ref (Ad 9), .ref (Ad 10), .ref (Ad 11)])
    | 7 => .inr (4, [.int (f 0), .int (f 1), .ref (Ad 8)])
    | 8 => .inl (cy 0, 54, .inl f)
    | 9 => .inl (cy 1, 54, .inl f)
    | 10 => .inl (cy 0, 54, .inl f)
    | 11 => .inl (cy 0, 540, .inl f)
    | 12 => .inr (3, [.ref (Ad 13)])
    | _ => .inl (cy 2, 8, .inr (.inr (.inr (.inr (fun j => some (Ad (14 + 3 * j))))))))
  else if c < 38 then (if (c - 14) % 3 = 0 then .inr (2, [.int (f 0), .int (f 1), .int (f 2), .int (f 3), .int (f 4), .int (f 5), .int (f 6), .int (f 7), .int (f 8), .int (f 9), .int (f 10), .int (f 11), .int (f 12), .int (f 13), .int (f 14), .int (f 15), .ref (Ad (c + 1)), .ref (Ad (c + 2))]) else .inl (cy 0, 8, .inl f))
  else if c < 45 then (match c with
    | 38 => .inr (6, [.ref (Ad 6), .ref (Ad 39), .ref (Ad 40), .int (f 3), .int (f 4), .int (f 5), .int (f 6), .int (f 7), .int (f 8)])
    | 39 => .inl (cy 0, 6, .inl f)
    | 40 => .inl (cy 1, 9, .inl f)
    | 41 => .inr (8, [.int (f 0), .ref (Ad 6), .ref (Ad 42), .ref (Ad 43), .ref (Ad 44), .int (f 5)])
    | 42 => .inl (cy 3, 12, .inr (.inr (.inr (.inr (fun j => some (Ad (45 + ln j)))))))
    | 43 => .inr (0, [.int (f 0), .int (f 1), .int (f 2)])
    | _ => .inr (0, [.int (f 0), .int (f 1), .int (f 2)]))
  else if c < 57 then .inr (7, [.int (f 0), .int (f 1), .int (f 2), .int (f 3), .int (f 4), .int (f 5), .int (f 6)])
  else .inr (9, [.ref (Ad 6), .ref (Ad 12), .ref (Ad 41)])
def kX (c : Nat) : Nat × Nat :=
  if c < 14 then (match c with
    | 0 => (10, 0)
    | 1 => (5, 0)
    | 2 => (12, 0)
    | 3 => (4, 0)
    | 4 => (11, 0)
    | 5 => (13, 0)
    | 6 => (1, 0)
    | 7 => (4, 1)
    | 8 => (11, 1)
    | 9 => (14, 0)
    | 10 => (15, 0)
    | 11 => (16, 0)
    | 12 => (3, 0)
    | _ => (30, 13))
  else if c < 38 then (if (c - 14) % 3 = 0 then 2 else if (c - 14) % 3 = 1 then 17 else 18, (c - 14) / 3)
  else if c < 45 then (match c with
    | 38 => (6, 0)
    | 39 => (19, 0)
    | 40 => (20, 0)
    | 41 => (8, 0)
    | 42 => (30, 42)
    | 43 => (0, 0)
    | _ => (0, 1))
  else if c < 57 then (7, c - 45)
  else (9, 0)
theorem kX_inj : ∀ a, a < 58 → ∀ b, b < 58 → kX a = kX b → a = b := by decide +kernel
def wX (cy : Nat → ClassId) (Ad : Nat → Nat) (σ : St) : va_W := wOf 58 Ad (fun c => bX cy Ad c (σ.1 (kX c).1 (kX c).2) σ.2.1)
theorem wX_at {cy : Nat → ClassId} {Ad : Nat → Nat} {σ : St} (c : Nat) (h : c < 58) (k i : Nat) (hk : kX c = (k, i)) (E : va_E) (hE : bX cy Ad c (σ.1 k i) σ.2.1 = E) : (wX cy Ad σ)[c]? = some (Ad c, E) := by
  unfold wX
  rw [wOf_at c h, hk, hE]
theorem wX_si {cy : Nat → ClassId} {Ad : Nat → Nat} {σ : St} (c : Nat) (h : c < 58) (hl : c ≠ 42) (k i : Nat) (hk : kX c = (k, i)) (j : Nat) (v : Int32) (E : va_E) (hE : bX cy Ad c (fun d => if d = j then v else σ.1 k i d) σ.2.1 = E) : (wX cy Ad σ).set c (Ad c, E) = wX cy Ad (si σ k i j v) := by
  subst hE
  have e : (fun d => if d = j then v else σ.1 k i d) = (si σ k i j v).1 k i := by funext d; simp [si]
  rw [e]
  have h3 := wOf_set (n := 58) (Ad := Ad) (f := fun c => bX cy Ad c (σ.1 (kX c).1 (kX c).2) σ.2.1) (f2 := fun c => bX cy Ad c ((si σ k i j v).1 (kX c).1 (kX c).2) (si σ k i j v).2.1) c (by
    intro d hd hne
    have hne2 : ¬ ((kX d).1 = k ∧ (kX d).2 = i) := fun z => hne (kX_inj d hd c h (by rw [hk]; exact Prod.ext z.1 z.2))
    have : (si σ k i j v).1 (kX d).1 (kX d).2 = σ.1 (kX d).1 (kX d).2 := by
      funext x
      simp only [si]
      rw [if_neg (fun z => hne2 ⟨z.1, z.2.1⟩)]
    rw [this]
    rfl)
  unfold wX
  rw [← h3, hk]
  rfl
theorem bX_ln {cy : Nat → ClassId} {Ad : Nat → Nat} (c : Nat) (f : Nat → Int32) (ln ln2 : Nat → Nat) (h : c ≠ 42) : bX cy Ad c f ln = bX cy Ad c f ln2 := by
  by_cases h45 : c < 45
  · by_cases h38 : c < 38
    · simp only [bX, h38, if_true]
    · have hc : c = 38 ∨ c = 39 ∨ c = 40 ∨ c = 41 ∨ c = 43 ∨ c = 44 := by omega
      rcases hc with rfl | rfl | rfl | rfl | rfl | rfl <;> rfl
  · have h38 : ¬ c < 38 := by omega
    have h14 : ¬ c < 14 := by omega
    simp only [bX, h45, h38, h14, if_false]
theorem wX_sl {cy : Nat → ClassId} {Ad : Nat → Nat} {σ : St} (j v : Nat) : (wX cy Ad σ).set 42 (Ad 42, .inl (cy 3, 12, .inr (.inr (.inr (.inr (va_up (fun j => some (Ad (45 + σ.2.1 j))) j (some (Ad (45 + v))))))))) = wX cy Ad (sl σ j v) := by
  have h3 := wOf_set (n := 58) (Ad := Ad) (f := fun c => bX cy Ad c (σ.1 (kX c).1 (kX c).2) σ.2.1) (f2 := fun c => bX cy Ad c ((sl σ j v).1 (kX c).1 (kX c).2) (sl σ j v).2.1) 42 (by
    intro d hd hne
    exact bX_ln d _ _ _ hne)
  unfold wX
  rw [← h3]
  have e : va_up (fun j => some (Ad (45 + σ.2.1 j))) j (some (Ad (45 + v))) = fun c => some (Ad (45 + (sl σ j v).2.1 c)) := by
    funext c
    by_cases hc : c = j <;> simp [va_up, sl, hc]
  rw [e]
  rfl
theorem wX_D {cy : Nat → ClassId} {Ad : Nat → Nat} (h : AdOK 58 Ad) (σ : St) : va_D (AdA 58 Ad) (wX cy Ad σ) := wOf_D h
theorem wx_0 {cy : Nat → ClassId} {Ad : Nat → Nat} {σ : St} : (wX cy Ad σ)[0]? = some (Ad 0, .inr (10, [.ref (Ad 1), .ref (Ad 6), .ref (Ad 12), .ref (Ad 38), .ref (Ad 41), .ref (Ad 57), .int (σ.1 10 0 6)])) := wX_at 0 (by decide) 10 0 rfl _ rfl
theorem sx_0_6 {cy : Nat → ClassId} {Ad : Nat → Nat} {σ : St} (v : Int32) : (wX cy Ad σ).set 0 (Ad 0, .inr (10, ([.ref (Ad 1), .ref (Ad 6), .ref (Ad 12), .ref (Ad 38), .ref (Ad 41), .ref (Ad 57), .int (σ.1 10 0 6)] : List Value).set 6 (.int v))) = wX cy Ad (si σ 10 0 6 v) := wX_si 0 (by decide) (by decide) 10 0 rfl 6 v _ rfl
theorem wx_1 {cy : Nat → ClassId} {Ad : Nat → Nat} {σ : St} : (wX cy Ad σ)[1]? = some (Ad 1, .inr (5, [.int (σ.1 5 0 0), .int (σ.1 5 0 1), .int (σ.1 5 0 2), .int (σ.1 5 0 3), .int (σ.1 5 0 4), .ref (Ad 2), .ref (Ad 3), .ref (Ad 5), .int (σ.1 5 0 8)])) := wX_at 1 (by decide) 5 0 rfl _ rfl
theorem sx_1_0 {cy : Nat → ClassId} {Ad : Nat → Nat} {σ : St} (v : Int32) : (wX cy Ad σ).set 1 (Ad 1, .inr (5, ([.int (σ.1 5 0 0), .int (σ.1 5 0 1), .int (σ.1 5 0 2), .int (σ.1 5 0 3), .int (σ.1 5 0 4), .ref (Ad 2), .ref (Ad 3), .ref (Ad 5), .int (σ.1 5 0 8)] : List Value).set 0 (.int v))) = wX cy Ad (si σ 5 0 0 v) := wX_si 1 (by decide) (by decide) 5 0 rfl 0 v _ rfl
theorem sx_1_1 {cy : Nat → ClassId} {Ad : Nat → Nat} {σ : St} (v : Int32) : (wX cy Ad σ).set 1 (Ad 1, .inr (5, ([.int (σ.1 5 0 0), .int (σ.1 5 0 1), .int (σ.1 5 0 2), .int (σ.1 5 0 3), .int (σ.1 5 0 4), .ref (Ad 2), .ref (Ad 3), .ref (Ad 5), .int (σ.1 5 0 8)] : List Value).set 1 (.int v))) = wX cy Ad (si σ 5 0 1 v) := wX_si 1 (by decide) (by decide) 5 0 rfl 1 v _ rfl
theorem sx_1_2 {cy : Nat → ClassId} {Ad : Nat → Nat} {σ : St} (v : Int32) : (wX cy Ad σ).set 1 (Ad 1, .inr (5, ([.int (σ.1 5 0 0), .int (σ.1 5 0 1), .int (σ.1 5 0 2), .int (σ.1 5 0 3), .int (σ.1 5 0 4), .ref (Ad 2), .ref (Ad 3), .ref (Ad 5), .int (σ.1 5 0 8)] : List Value).set 2 (.int v))) = wX cy Ad (si σ 5 0 2 v) := wX_si 1 (by decide) (by decide) 5 0 rfl 2 v _ rfl
theorem sx_1_3 {cy : Nat → ClassId} {Ad : Nat → Nat} {σ : St} (v : Int32) : (wX cy Ad σ).set 1 (Ad 1, .inr (5, ([.int (σ.1 5 0 0), .int (σ.1 5 0 1), .int (σ.1 5 0 2), .int (σ.1 5 0 3), .int (σ.1 5 0 4), .ref (Ad 2), .ref (Ad 3), .ref (Ad 5), .int (σ.1 5 0 8)] : List Value).set 3 (.int v))) = wX cy Ad (si σ 5 0 3 v) := wX_si 1 (by decide) (by decide) 5 0 rfl 3 v _ rfl
theorem sx_1_4 {cy : Nat → ClassId} {Ad : Nat → Nat} {σ : St} (v : Int32) : (wX cy Ad σ).set 1 (Ad 1, .inr (5, ([.int (σ.1 5 0 0), .int (σ.1 5 0 1), .int (σ.1 5 0 2), .int (σ.1 5 0 3), .int (σ.1 5 0 4), .ref (Ad 2), .ref (Ad 3), .ref (Ad 5), .int (σ.1 5 0 8)] : List Value).set 4 (.int v))) = wX cy Ad (si σ 5 0 4 v) := wX_si 1 (by decide) (by decide) 5 0 rfl 4 v _ rfl
theorem sx_1_8 {cy : Nat → ClassId} {Ad : Nat → Nat} {σ : St} (v : Int32) : (wX cy Ad σ).set 1 (Ad 1, .inr (5, ([.int (σ.1 5 0 0), .int (σ.1 5 0 1), .int (σ.1 5 0 2), .int (σ.1 5 0 3), .int (σ.1 5 0 4), .ref (Ad 2), .ref (Ad 3), .ref (Ad 5), .int (σ.1 5 0 8)] : List Value).set 8 (.int v))) = wX cy Ad (si σ 5 0 8 v) := wX_si 1 (by decide) (by decide) 5 0 rfl 8 v _ rfl
theorem wx_2 {cy : Nat → ClassId} {Ad : Nat → Nat} {σ : St} : (wX cy Ad σ)[2]? = some (Ad 2, .inl (cy 0, 30, .inl (σ.1 12 0))) := wX_at 2 (by decide) 12 0 rfl _ rfl
theorem sx_2 {cy : Nat → ClassId} {Ad : Nat → Nat} {σ : St} (j : Nat) (v : Int32) : (wX cy Ad σ).set 2 (Ad 2, .inl (cy 0, 30, .inl (upd (σ.1 12 0) j v))) = wX cy Ad (si σ 12 0 j v) := wX_si 2 (by decide) (by decide) 12 0 rfl j v _ rfl
theorem wx_3 {cy : Nat → ClassId} {Ad : Nat → Nat} {σ : St} : (wX cy Ad σ)[3]? = some (Ad 3, .inr (4, [.int (σ.1 4 0 0), .int (σ.1 4 0 1), .ref (Ad 4)])) := wX_at 3 (by decide) 4 0 rfl _ rfl
theorem sx_3_0 {cy : Nat → ClassId} {Ad : Nat → Nat} {σ : St} (v : Int32) : (wX cy Ad σ).set 3 (Ad 3, .inr (4, ([.int (σ.1 4 0 0), .int (σ.1 4 0 1), .ref (Ad 4)] : List Value).set 0 (.int v))) = wX cy Ad (si σ 4 0 0 v) := wX_si 3 (by decide) (by decide) 4 0 rfl 0 v _ rfl
theorem sx_3_1 {cy : Nat → ClassId} {Ad : Nat → Nat} {σ : St} (v : Int32) : (wX cy Ad σ).set 3 (Ad 3, .inr (4, ([.int (σ.1 4 0 0), .int (σ.1 4 0 1), .ref (Ad 4)] : List Value).set 1 (.int v))) = wX cy Ad (si σ 4 0 1 v) := wX_si 3 (by decide) (by decide) 4 0 rfl 1 v _ rfl
theorem wx_4 {cy : Nat → ClassId} {Ad : Nat → Nat} {σ : St} : (wX cy Ad σ)[4]? = some (Ad 4, .inl (cy 0, 54, .inl (σ.1 11 0))) := wX_at 4 (by decide) 11 0 rfl _ rfl
theorem sx_4 {cy : Nat → ClassId} {Ad : Nat → Nat} {σ : St} (j : Nat) (v : Int32) : (wX cy Ad σ).set 4 (Ad 4, .inl (cy 0, 54, .inl (upd (σ.1 11 0) j v))) = wX cy Ad (si σ 11 0 j v) := wX_si 4 (by decide) (by decide) 11 0 rfl j v _ rfl
theorem wx_5 {cy : Nat → ClassId} {Ad : Nat → Nat} {σ : St} : (wX cy Ad σ)[5]? = some (Ad 5, .inl (cy 1, 54, .inl (σ.1 13 0))) := wX_at 5 (by decide) 13 0 rfl _ rfl
theorem sx_5 {cy : Nat → ClassId} {Ad : Nat → Nat} {σ : St} (j : Nat) (v : Int32) : (wX cy Ad σ).set 5 (Ad 5, .inl (cy 1, 54, .inl (upd (σ.1 13 0) j v))) = wX cy Ad (si σ 13 0 j v) := wX_si 5 (by decide) (by decide) 13 0 rfl j v _ rfl
theorem wx_6 {cy : Nat → ClassId} {Ad : Nat → Nat} {σ : St} : (wX cy Ad σ)[6]? = some (Ad 6, .inr (1, [.ref (Ad 7), .int (σ.1 1 0 1), .int (σ.1 1 0 2), .ref (Ad 9), .ref (Ad 10), .ref (Ad 11)])) := wX_at 6 (by decide) 1 0 rfl _ rfl
theorem sx_6_1 {cy : Nat → ClassId} {Ad : Nat → Nat} {σ : St} (v : Int32) : (wX cy Ad σ).set 6 (Ad 6, .inr (1, ([.ref (Ad 7), .int (σ.1 1 0 1), .int (σ.1 1 0 2), .ref (Ad 9), .ref (Ad 10), .ref (Ad 11)] : List Value).set 1 (.int v))) = wX cy Ad (si σ 1 0 1 v) := wX_si 6 (by decide) (by decide) 1 0 rfl 1 v _ rfl
theorem sx_6_2 {cy : Nat → ClassId} {Ad : Nat → Nat} {σ : St} (v : Int32) : (wX cy Ad σ).set 6 (Ad 6, .inr (1, ([.ref (Ad 7), .int (σ.1 1 0 1), .int (σ.1 1 0 2), .ref (Ad 9), .ref (Ad 10), .ref (Ad 11)] : List Value).set 2 (.int v))) = wX cy Ad (si σ 1 0 2 v) := wX_si 6 (by decide) (by decide) 1 0 rfl 2 v _ rfl
theorem wx_7 {cy : Nat → ClassId} {Ad : Nat → Nat} {σ : St} : (wX cy Ad σ)[7]? = some (Ad 7, .inr (4, [.int (σ.1 4 1 0), .int (σ.1 4 1 1), .ref (Ad 8)])) := wX_at 7 (by decide) 4 1 rfl _ rfl
theorem sx_7_0 {cy : Nat → ClassId} {Ad : Nat → Nat} {σ : St} (v : Int32) : (wX cy Ad σ).set 7 (Ad 7, .inr (4, ([.int (σ.1 4 1 0), .int (σ.1 4 1 1), .ref (Ad 8)] : List Value).set 0 (.int v))) = wX cy Ad (si σ 4 1 0 v) := wX_si 7 (by decide) (by decide) 4 1 rfl 0 v _ rfl
theorem sx_7_1 {cy : Nat → ClassId} {Ad : Nat → Nat} {σ : St} (v : Int32) : (wX cy Ad σ).set 7 (Ad 7, .inr (4, ([.int (σ.1 4 1 0), .int (σ.1 4 1 1), .ref (Ad 8)] : List Value).set 1 (.int v))) = wX cy Ad (si σ 4 1 1 v) := wX_si 7 (by decide) (by decide) 4 1 rfl 1 v _ rfl
theorem wx_8 {cy : Nat → ClassId} {Ad : Nat → Nat} {σ : St} : (wX cy Ad σ)[8]? = some (Ad 8, .inl (cy 0, 54, .inl (σ.1 11 1))) := wX_at 8 (by decide) 11 1 rfl _ rfl
theorem sx_8 {cy : Nat → ClassId} {Ad : Nat → Nat} {σ : St} (j : Nat) (v : Int32) : (wX cy Ad σ).set 8 (Ad 8, .inl (cy 0, 54, .inl (upd (σ.1 11 1) j v))) = wX cy Ad (si σ 11 1 j v) := wX_si 8 (by decide) (by decide) 11 1 rfl j v _ rfl
theorem wx_9 {cy : Nat → ClassId} {Ad : Nat → Nat} {σ : St} : (wX cy Ad σ)[9]? = some (Ad 9, .inl (cy 1, 54, .inl (σ.1 14 0))) := wX_at 9 (by decide) 14 0 rfl _ rfl
theorem sx_9 {cy : Nat → ClassId} {Ad : Nat → Nat} {σ : St} (j : Nat) (v : Int32) : (wX cy Ad σ).set 9 (Ad 9, .inl (cy 1, 54, .inl (upd (σ.1 14 0) j v))) = wX cy Ad (si σ 14 0 j v) := wX_si 9 (by decide) (by decide) 14 0 rfl j v _ rfl
theorem wx_10 {cy : Nat → ClassId} {Ad : Nat → Nat} {σ : St} : (wX cy Ad σ)[10]? = some (Ad 10, .inl (cy 0, 54, .inl (σ.1 15 0))) := wX_at 10 (by decide) 15 0 rfl _ rfl
theorem sx_10 {cy : Nat → ClassId} {Ad : Nat → Nat} {σ : St} (j : Nat) (v : Int32) : (wX cy Ad σ).set 10 (Ad 10, .inl (cy 0, 54, .inl (upd (σ.1 15 0) j v))) = wX cy Ad (si σ 15 0 j v) := wX_si 10 (by decide) (by decide) 15 0 rfl j v _ rfl
theorem wx_11 {cy : Nat → ClassId} {Ad : Nat → Nat} {σ : St} : (wX cy Ad σ)[11]? = some (Ad 11, .inl (cy 0, 540, .inl (σ.1 16 0))) := wX_at 11 (by decide) 16 0 rfl _ rfl
theorem sx_11 {cy : Nat → ClassId} {Ad : Nat → Nat} {σ : St} (j : Nat) (v : Int32) : (wX cy Ad σ).set 11 (Ad 11, .inl (cy 0, 540, .inl (upd (σ.1 16 0) j v))) = wX cy Ad (si σ 16 0 j v) := wX_si 11 (by decide) (by decide) 16 0 rfl j v _ rfl
theorem wx_12 {cy : Nat → ClassId} {Ad : Nat → Nat} {σ : St} : (wX cy Ad σ)[12]? = some (Ad 12, .inr (3, [.ref (Ad 13)])) := wX_at 12 (by decide) 3 0 rfl _ rfl
theorem wx_13 {cy : Nat → ClassId} {Ad : Nat → Nat} {σ : St} : (wX cy Ad σ)[13]? = some (Ad 13, .inl (cy 2, 8, .inr (.inr (.inr (.inr (fun j => some (Ad (14 + 3 * j)))))))) := wX_at 13 (by decide) 30 13 rfl _ rfl
theorem wx_38 {cy : Nat → ClassId} {Ad : Nat → Nat} {σ : St} : (wX cy Ad σ)[38]? = some (Ad 38, .inr (6, [.ref (Ad 6), .ref (Ad 39), .ref (Ad 40), .int (σ.1 6 0 3), .int (σ.1 6 0 4), .int (σ.1 6 0 5), .int (σ.1 6 0 6), .int (σ.1 6 0 7), .int (σ.1 6 0 8)])) := wX_at 38 (by decide) 6 0 rfl _ rfl
theorem sx_38_3 {cy : Nat → ClassId} {Ad : Nat → Nat} {σ : St} (v : Int32) : (wX cy Ad σ).set 38 (Ad 38, .inr (6, ([.ref (Ad 6), .ref (Ad 39), .ref (Ad 40), .int (σ.1 6 0 3), .int (σ.1 6 0 4), .int (σ.1 6 0 5), .int (σ.1 6 0 6), .int (σ.1 6 0 7), .int (σ.1 6 0 8)] : List Value).set 3 (.int v))) = wX cy Ad (si σ 6 0 3 v) := wX_si 38 (by decide) (by decide) 6 0 rfl 3 v _ rfl
theorem sx_38_4 {cy : Nat → ClassId} {Ad : Nat → Nat} {σ : St} (v : Int32) : (wX cy Ad σ).set 38 (Ad 38, .inr (6, ([.ref (Ad 6), .ref (Ad 39), .ref (Ad 40), .int (σ.1 6 0 3), .int (σ.1 6 0 4), .int (σ.1 6 0 5), .int (σ.1 6 0 6), .int (σ.1 6 0 7), .int (σ.1 6 0 8)] : List Value).set 4 (.int v))) = wX cy Ad (si σ 6 0 4 v) := wX_si 38 (by decide) (by decide) 6 0 rfl 4 v _ rfl
theorem sx_38_5 {cy : Nat → ClassId} {Ad : Nat → Nat} {σ : St} (v : Int32) : (wX cy Ad σ).set 38 (Ad 38, .inr (6, ([.ref (Ad 6), .ref (Ad 39), .ref (Ad 40), .int (σ.1 6 0 3), .int (σ.1 6 0 4), .int (σ.1 6 0 5), .int (σ.1 6 0 6), .int (σ.1 6 0 7), .int (σ.1 6 0 8)] : List Value).set 5 (.int v))) = wX cy Ad (si σ 6 0 5 v) := wX_si 38 (by decide) (by decide) 6 0 rfl 5 v _ rfl
theorem sx_38_6 {cy : Nat → ClassId} {Ad : Nat → Nat} {σ : St} (v : Int32) : (wX cy Ad σ).set 38 (Ad 38, .inr (6, ([.ref (Ad 6), .ref (Ad 39), .ref (Ad 40), .int (σ.1 6 0 3), .int (σ.1 6 0 4), .int (σ.1 6 0 5), .int (σ.1 6 0 6), .int (σ.1 6 0 7), .int (σ.1 6 0 8)] : List Value).set 6 (.int v))) = wX cy Ad (si σ 6 0 6 v) := wX_si 38 (by decide) (by decide) 6 0 rfl 6 v _ rfl
theorem sx_38_7 {cy : Nat → ClassId} {Ad : Nat → Nat} {σ : St} (v : Int32) : (wX cy Ad σ).set 38 (Ad 38, .inr (6, ([.ref (Ad 6), .ref (Ad 39), .ref (Ad 40), .int (σ.1 6 0 3), .int (σ.1 6 0 4), .int (σ.1 6 0 5), .int (σ.1 6 0 6), .int (σ.1 6 0 7), .int (σ.1 6 0 8)] : List Value).set 7 (.int v))) = wX cy Ad (si σ 6 0 7 v) := wX_si 38 (by decide) (by decide) 6 0 rfl 7 v _ rfl
theorem sx_38_8 {cy : Nat → ClassId} {Ad : Nat → Nat} {σ : St} (v : Int32) : (wX cy Ad σ).set 38 (Ad 38, .inr (6, ([.ref (Ad 6), .ref (Ad 39), .ref (Ad 40), .int (σ.1 6 0 3), .int (σ.1 6 0 4), .int (σ.1 6 0 5), .int (σ.1 6 0 6), .int (σ.1 6 0 7), .int (σ.1 6 0 8)] : List Value).set 8 (.int v))) = wX cy Ad (si σ 6 0 8 v) := wX_si 38 (by decide) (by decide) 6 0 rfl 8 v _ rfl
theorem wx_39 {cy : Nat → ClassId} {Ad : Nat → Nat} {σ : St} : (wX cy Ad σ)[39]? = some (Ad 39, .inl (cy 0, 6, .inl (σ.1 19 0))) := wX_at 39 (by decide) 19 0 rfl _ rfl
theorem sx_39 {cy : Nat → ClassId} {Ad : Nat → Nat} {σ : St} (j : Nat) (v : Int32) : (wX cy Ad σ).set 39 (Ad 39, .inl (cy 0, 6, .inl (upd (σ.1 19 0) j v))) = wX cy Ad (si σ 19 0 j v) := wX_si 39 (by decide) (by decide) 19 0 rfl j v _ rfl
theorem wx_40 {cy : Nat → ClassId} {Ad : Nat → Nat} {σ : St} : (wX cy Ad σ)[40]? = some (Ad 40, .inl (cy 1, 9, .inl (σ.1 20 0))) := wX_at 40 (by decide) 20 0 rfl _ rfl
theorem sx_40 {cy : Nat → ClassId} {Ad : Nat → Nat} {σ : St} (j : Nat) (v : Int32) : (wX cy Ad σ).set 40 (Ad 40, .inl (cy 1, 9, .inl (upd (σ.1 20 0) j v))) = wX cy Ad (si σ 20 0 j v) := wX_si 40 (by decide) (by decide) 20 0 rfl j v _ rfl
theorem wx_41 {cy : Nat → ClassId} {Ad : Nat → Nat} {σ : St} : (wX cy Ad σ)[41]? = some (Ad 41, .inr (8, [.int (σ.1 8 0 0), .ref (Ad 6), .ref (Ad 42), .ref (Ad 43), .ref (Ad 44), .int (σ.1 8 0 5)])) := wX_at 41 (by decide) 8 0 rfl _ rfl
theorem sx_41_0 {cy : Nat → ClassId} {Ad : Nat → Nat} {σ : St} (v : Int32) : (wX cy Ad σ).set 41 (Ad 41, .inr (8, ([.int (σ.1 8 0 0), .ref (Ad 6), .ref (Ad 42), .ref (Ad 43), .ref (Ad 44), .int (σ.1 8 0 5)] : List Value).set 0 (.int v))) = wX cy Ad (si σ 8 0 0 v) := wX_si 41 (by decide) (by decide) 8 0 rfl 0 v _ rfl
theorem sx_41_5 {cy : Nat → ClassId} {Ad : Nat → Nat} {σ : St} (v : Int32) : (wX cy Ad σ).set 41 (Ad 41, .inr (8, ([.int (σ.1 8 0 0), .ref (Ad 6), .ref (Ad 42), .ref (Ad 43), .ref (Ad 44), .int (σ.1 8 0 5)] : List Value).set 5 (.int v))) = wX cy Ad (si σ 8 0 5 v) := wX_si 41 (by decide) (by decide) 8 0 rfl 5 v _ rfl
theorem wx_42 {cy : Nat → ClassId} {Ad : Nat → Nat} {σ : St} : (wX cy Ad σ)[42]? = some (Ad 42, .inl (cy 3, 12, .inr (.inr (.inr (.inr (fun j => some (Ad (45 + σ.2.1 j)))))))) := wX_at 42 (by decide) 30 42 rfl _ rfl
theorem wx_43 {cy : Nat → ClassId} {Ad : Nat → Nat} {σ : St} : (wX cy Ad σ)[43]? = some (Ad 43, .inr (0, [.int (σ.1 0 0 0), .int (σ.1 0 0 1), .int (σ.1 0 0 2)])) := wX_at 43 (by decide) 0 0 rfl _ rfl
theorem sx_43_0 {cy : Nat → ClassId} {Ad : Nat → Nat} {σ : St} (v : Int32) : (wX cy Ad σ).set 43 (Ad 43, .inr (0, ([.int (σ.1 0 0 0), .int (σ.1 0 0 1), .int (σ.1 0 0 2)] : List Value).set 0 (.int v))) = wX cy Ad (si σ 0 0 0 v) := wX_si 43 (by decide) (by decide) 0 0 rfl 0 v _ rfl
theorem sx_43_1 {cy : Nat → ClassId} {Ad : Nat → Nat} {σ : St} (v : Int32) : (wX cy Ad σ).set 43 (Ad 43, .inr (0, ([.int (σ.1 0 0 0), .int (σ.1 0 0 1), .int (σ.1 0 0 2)] : List Value).set 1 (.int v))) = wX cy Ad (si σ 0 0 1 v) := wX_si 43 (by decide) (by decide) 0 0 rfl 1 v _ rfl
theorem sx_43_2 {cy : Nat → ClassId} {Ad : Nat → Nat} {σ : St} (v : Int32) : (wX cy Ad σ).set 43 (Ad 43, .inr (0, ([.int (σ.1 0 0 0), .int (σ.1 0 0 1), .int (σ.1 0 0 2)] : List Value).set 2 (.int v))) = wX cy Ad (si σ 0 0 2 v) := wX_si 43 (by decide) (by decide) 0 0 rfl 2 v _ rfl
theorem wx_44 {cy : Nat → ClassId} {Ad : Nat → Nat} {σ : St} : (wX cy Ad σ)[44]? = some (Ad 44, .inr (0, [.int (σ.1 0 1 0), .int (σ.1 0 1 1), .int (σ.1 0 1 2)])) := wX_at 44 (by decide) 0 1 rfl _ rfl
theorem sx_44_0 {cy : Nat → ClassId} {Ad : Nat → Nat} {σ : St} (v : Int32) : (wX cy Ad σ).set 44 (Ad 44, .inr (0, ([.int (σ.1 0 1 0), .int (σ.1 0 1 1), .int (σ.1 0 1 2)] : List Value).set 0 (.int v))) = wX cy Ad (si σ 0 1 0 v) := wX_si 44 (by decide) (by decide) 0 1 rfl 0 v _ rfl
theorem sx_44_1 {cy : Nat → ClassId} {Ad : Nat → Nat} {σ : St} (v : Int32) : (wX cy Ad σ).set 44 (Ad 44, .inr (0, ([.int (σ.1 0 1 0), .int (σ.1 0 1 1), .int (σ.1 0 1 2)] : List Value).set 1 (.int v))) = wX cy Ad (si σ 0 1 1 v) := wX_si 44 (by decide) (by decide) 0 1 rfl 1 v _ rfl
theorem sx_44_2 {cy : Nat → ClassId} {Ad : Nat → Nat} {σ : St} (v : Int32) : (wX cy Ad σ).set 44 (Ad 44, .inr (0, ([.int (σ.1 0 1 0), .int (σ.1 0 1 1), .int (σ.1 0 1 2)] : List Value).set 2 (.int v))) = wX cy Ad (si σ 0 1 2 v) := wX_si 44 (by decide) (by decide) 0 1 rfl 2 v _ rfl
theorem wx_57 {cy : Nat → ClassId} {Ad : Nat → Nat} {σ : St} : (wX cy Ad σ)[57]? = some (Ad 57, .inr (9, [.ref (Ad 6), .ref (Ad 12), .ref (Ad 41)])) := wX_at 57 (by decide) 9 0 rfl _ rfl
theorem kx_C : ∀ i, i < 8 → kX (14 + 3 * i) = (2, i) := by decide +kernel
theorem wx_C {cy : Nat → ClassId} {Ad : Nat → Nat} {σ : St} {i : Nat} (h : i < 8) : (wX cy Ad σ)[14 + 3 * i]? = some (Ad (14 + 3 * i), .inr (2, [.int (σ.1 2 i 0), .int (σ.1 2 i 1), .int (σ.1 2 i 2), .int (σ.1 2 i 3), .int (σ.1 2 i 4), .int (σ.1 2 i 5), .int (σ.1 2 i 6), .int (σ.1 2 i 7), .int (σ.1 2 i 8), .int (σ.1 2 i 9), .int (σ.1 2 i 10), .int (σ.1 2 i 11), .int (σ.1 2 i 12), .int (σ.1 2 i 13), .int (σ.1 2 i 14), .int (σ.1 2 i 15), .ref (Ad (14 + 3 * i + 1)), .ref (Ad (14 + 3 * i + 2))])) := wX_at (14 + 3 * i) (by omega) 2 i (kx_C i h) _ (by rcases (show i = 0 ∨ i = 1 ∨ i = 2 ∨ i = 3 ∨ i = 4 ∨ i = 5 ∨ i = 6 ∨ i = 7 by omega) with rfl | rfl | rfl | rfl | rfl | rfl | rfl | rfl <;> rfl)
theorem sx_C_1 {cy : Nat → ClassId} {Ad : Nat → Nat} {σ : St} {i : Nat} (h : i < 8) (v : Int32) : (wX cy Ad σ).set (14 + 3 * i) (Ad (14 + 3 * i), .inr (2, ([.int (σ.1 2 i 0), .int (σ.1 2 i 1), .int (σ.1 2 i 2), .int (σ.1 2 i 3), .int (σ.1 2 i 4), .int (σ.1 2 i 5), .int (σ.1 2 i 6), .int (σ.1 2 i 7), .int (σ.1 2 i 8), .int (σ.1 2 i 9), .int (σ.1 2 i 10), .int (σ.1 2 i 11), .int (σ.1 2 i 12), .int (σ.1 2 i 13), .int (σ.1 2 i 14), .int (σ.1 2 i 15), .ref (Ad (14 + 3 * i + 1)), .ref (Ad (14 + 3 * i + 2))] : List Value).set 1 (.int v))) = wX cy Ad (si σ 2 i 1 v) := wX_si (14 + 3 * i) (by omega) (by omega) 2 i (kx_C i h) 1 v _ (by rcases (show i = 0 ∨ i = 1 ∨ i = 2 ∨ i = 3 ∨ i = 4 ∨ i = 5 ∨ i = 6 ∨ i = 7 by omega) with rfl | rfl | rfl | rfl | rfl | rfl | rfl | rfl <;> rfl)
theorem sx_C_2 {cy : Nat → ClassId} {Ad : Nat → Nat} {σ : St} {i : Nat} (h : i < 8) (v : Int32) : (wX cy Ad σ).set (14 + 3 * i) (Ad (14 + 3 * i), .inr (2, ([.int (σ.1 2 i 0), .int (σ.1 2 i 1), .int (σ.1 2 i 2), .int (σ.1 2 i 3), .int (σ.1 2 i 4), .int (σ.1 2 i 5), .int (σ.1 2 i 6), .int (σ.1 2 i 7), .int (σ.1 2 i 8), .int (σ.1 2 i 9), .int (σ.1 2 i 10), .int (σ.1 2 i 11), .int (σ.1 2 i 12), .int (σ.1 2 i 13), .int (σ.1 2 i 14), .int (σ.1 2 i 15), .ref (Ad (14 + 3 * i + 1)), .ref (Ad (14 + 3 * i + 2))] : List Value).set 2 (.int v))) = wX cy Ad (si σ 2 i 2 v) := wX_si (14 + 3 * i) (by omega) (by omega) 2 i (kx_C i h) 2 v _ (by rcases (show i = 0 ∨ i = 1 ∨ i = 2 ∨ i = 3 ∨ i = 4 ∨ i = 5 ∨ i = 6 ∨ i = 7 by omega) with rfl | rfl | rfl | rfl | rfl | rfl | rfl | rfl <;> rfl)
theorem sx_C_3 {cy : Nat → ClassId} {Ad : Nat → Nat} {σ : St} {i : Nat} (h : i < 8) (v : Int32) : (wX cy Ad σ).set (14 + 3 * i) (Ad (14 + 3 * i), .inr (2, ([.int (σ.1 2 i 0), .int (σ.1 2 i 1), .int (σ.1 2 i 2), .int (σ.1 2 i 3), .int (σ.1 2 i 4), .int (σ.1 2 i 5), .int (σ.1 2 i 6), .int (σ.1 2 i 7), .int (σ.1 2 i 8), .int (σ.1 2 i 9), .int (σ.1 2 i 10), .int (σ.1 2 i 11), .int (σ.1 2 i 12), .int (σ.1 2 i 13), .int (σ.1 2 i 14), .int (σ.1 2 i 15), .ref (Ad (14 + 3 * i + 1)), .ref (Ad (14 + 3 * i + 2))] : List Value).set 3 (.int v))) = wX cy Ad (si σ 2 i 3 v) := wX_si (14 + 3 * i) (by omega) (by omega) 2 i (kx_C i h) 3 v _ (by rcases (show i = 0 ∨ i = 1 ∨ i = 2 ∨ i = 3 ∨ i = 4 ∨ i = 5 ∨ i = 6 ∨ i = 7 by omega) with rfl | rfl | rfl | rfl | rfl | rfl | rfl | rfl <;> rfl)
theorem sx_C_4 {cy : Nat → ClassId} {Ad : Nat → Nat} {σ : St} {i : Nat} (h : i < 8) (v : Int32) : (wX cy Ad σ).set (14 + 3 * i) (Ad (14 + 3 * i), .inr (2, ([.int (σ.1 2 i 0), .int (σ.1 2 i 1), .int (σ.1 2 i 2), .int (σ.1 2 i 3), .int (σ.1 2 i 4), .int (σ.1 2 i 5), .int (σ.1 2 i 6), .int (σ.1 2 i 7), .int (σ.1 2 i 8), .int (σ.1 2 i 9), .int (σ.1 2 i 10), .int (σ.1 2 i 11), .int (σ.1 2 i 12), .int (σ.1 2 i 13), .int (σ.1 2 i 14), .int (σ.1 2 i 15), .ref (Ad (14 + 3 * i + 1)), .ref (Ad (14 + 3 * i + 2))] : List Value).set 4 (.int v))) = wX cy Ad (si σ 2 i 4 v) := wX_si (14 + 3 * i) (by omega) (by omega) 2 i (kx_C i h) 4 v _ (by rcases (show i = 0 ∨ i = 1 ∨ i = 2 ∨ i = 3 ∨ i = 4 ∨ i = 5 ∨ i = 6 ∨ i = 7 by omega) with rfl | rfl | rfl | rfl | rfl | rfl | rfl | rfl <;> rfl)
theorem sx_C_5 {cy : Nat → ClassId} {Ad : Nat → Nat} {σ : St} {i : Nat} (h : i < 8) (v : Int32) : (wX cy Ad σ).set (14 + 3 * i) (Ad (14 + 3 * i), .inr (2, ([.int (σ.1 2 i 0), .int (σ.1 2 i 1), .int (σ.1 2 i 2), .int (σ.1 2 i 3), .int (σ.1 2 i 4), .int (σ.1 2 i 5), .int (σ.1 2 i 6), .int (σ.1 2 i 7), .int (σ.1 2 i 8), .int (σ.1 2 i 9), .int (σ.1 2 i 10), .int (σ.1 2 i 11), .int (σ.1 2 i 12), .int (σ.1 2 i 13), .int (σ.1 2 i 14), .int (σ.1 2 i 15), .ref (Ad (14 + 3 * i + 1)), .ref (Ad (14 + 3 * i + 2))] : List Value).set 5 (.int v))) = wX cy Ad (si σ 2 i 5 v) := wX_si (14 + 3 * i) (by omega) (by omega) 2 i (kx_C i h) 5 v _ (by rcases (show i = 0 ∨ i = 1 ∨ i = 2 ∨ i = 3 ∨ i = 4 ∨ i = 5 ∨ i = 6 ∨ i = 7 by omega) with rfl | rfl | rfl | rfl | rfl | rfl | rfl | rfl <;> rfl)
theorem sx_C_6 {cy : Nat → ClassId} {Ad : Nat → Nat} {σ : St} {i : Nat} (h : i < 8) (v : Int32) : (wX cy Ad σ).set (14 + 3 * i) (Ad (14 + 3 * i), .inr (2, ([.int (σ.1 2 i 0), .int (σ.1 2 i 1), .int (σ.1 2 i 2), .int (σ.1 2 i 3), .int (σ.1 2 i 4), .int (σ.1 2 i 5), .int (σ.1 2 i 6), .int (σ.1 2 i 7), .int (σ.1 2 i 8), .int (σ.1 2 i 9), .int (σ.1 2 i 10), .int (σ.1 2 i 11), .int (σ.1 2 i 12), .int (σ.1 2 i 13), .int (σ.1 2 i 14), .int (σ.1 2 i 15), .ref (Ad (14 + 3 * i + 1)), .ref (Ad (14 + 3 * i + 2))] : List Value).set 6 (.int v))) = wX cy Ad (si σ 2 i 6 v) := wX_si (14 + 3 * i) (by omega) (by omega) 2 i (kx_C i h) 6 v _ (by rcases (show i = 0 ∨ i = 1 ∨ i = 2 ∨ i = 3 ∨ i = 4 ∨ i = 5 ∨ i = 6 ∨ i = 7 by omega) with rfl | rfl | rfl | rfl | rfl | rfl | rfl | rfl <;> rfl)
theorem sx_C_7 {cy : Nat → ClassId} {Ad : Nat → Nat} {σ : St} {i : Nat} (h : i < 8) (v : Int32) : (wX cy Ad σ).set (14 + 3 * i) (Ad (14 + 3 * i), .inr (2, ([.int (σ.1 2 i 0), .int (σ.1 2 i 1), .int (σ.1 2 i 2), .int (σ.1 2 i 3), .int (σ.1 2 i 4), .int (σ.1 2 i 5), .int (σ.1 2 i 6), .int (σ.1 2 i 7), .int (σ.1 2 i 8), .int (σ.1 2 i 9), .int (σ.1 2 i 10), .int (σ.1 2 i 11), .int (σ.1 2 i 12), .int (σ.1 2 i 13), .int (σ.1 2 i 14), .int (σ.1 2 i 15), .ref (Ad (14 + 3 * i + 1)), .ref (Ad (14 + 3 * i + 2))] : List Value).set 7 (.int v))) = wX cy Ad (si σ 2 i 7 v) := wX_si (14 + 3 * i) (by omega) (by omega) 2 i (kx_C i h) 7 v _ (by rcases (show i = 0 ∨ i = 1 ∨ i = 2 ∨ i = 3 ∨ i = 4 ∨ i = 5 ∨ i = 6 ∨ i = 7 by omega) with rfl | rfl | rfl | rfl | rfl | rfl | rfl | rfl <;> rfl)
theorem sx_C_8 {cy : Nat → ClassId} {Ad : Nat → Nat} {σ : St} {i : Nat} (h : i < 8) (v : Int32) : (wX cy Ad σ).set (14 + 3 * i) (Ad (14 + 3 * i), .inr (2, ([.int (σ.1 2 i 0), .int (σ.1 2 i 1), .int (σ.1 2 i 2), .int (σ.1 2 i 3), .int (σ.1 2 i 4), .int (σ.1 2 i 5), .int (σ.1 2 i 6), .int (σ.1 2 i 7), .int (σ.1 2 i 8), .int (σ.1 2 i 9), .int (σ.1 2 i 10), .int (σ.1 2 i 11), .int (σ.1 2 i 12), .int (σ.1 2 i 13), .int (σ.1 2 i 14), .int (σ.1 2 i 15), .ref (Ad (14 + 3 * i + 1)), .ref (Ad (14 + 3 * i + 2))] : List Value).set 8 (.int v))) = wX cy Ad (si σ 2 i 8 v) := wX_si (14 + 3 * i) (by omega) (by omega) 2 i (kx_C i h) 8 v _ (by rcases (show i = 0 ∨ i = 1 ∨ i = 2 ∨ i = 3 ∨ i = 4 ∨ i = 5 ∨ i = 6 ∨ i = 7 by omega) with rfl | rfl | rfl | rfl | rfl | rfl | rfl | rfl <;> rfl)
theorem sx_C_9 {cy : Nat → ClassId} {Ad : Nat → Nat} {σ : St} {i : Nat} (h : i < 8) (v : Int32) : (wX cy Ad σ).set (14 + 3 * i) (Ad (14 + 3 * i), .inr (2, ([.int (σ.1 2 i 0), .int (σ.1 2 i 1), .int (σ.1 2 i 2), .int (σ.1 2 i 3), .int (σ.1 2 i 4), .int (σ.1 2 i 5), .int (σ.1 2 i 6), .int (σ.1 2 i 7), .int (σ.1 2 i 8), .int (σ.1 2 i 9), .int (σ.1 2 i 10), .int (σ.1 2 i 11), .int (σ.1 2 i 12), .int (σ.1 2 i 13), .int (σ.1 2 i 14), .int (σ.1 2 i 15), .ref (Ad (14 + 3 * i + 1)), .ref (Ad (14 + 3 * i + 2))] : List Value).set 9 (.int v))) = wX cy Ad (si σ 2 i 9 v) := wX_si (14 + 3 * i) (by omega) (by omega) 2 i (kx_C i h) 9 v _ (by rcases (show i = 0 ∨ i = 1 ∨ i = 2 ∨ i = 3 ∨ i = 4 ∨ i = 5 ∨ i = 6 ∨ i = 7 by omega) with rfl | rfl | rfl | rfl | rfl | rfl | rfl | rfl <;> rfl)
theorem sx_C_10 {cy : Nat → ClassId} {Ad : Nat → Nat} {σ : St} {i : Nat} (h : i < 8) (v : Int32) : (wX cy Ad σ).set (14 + 3 * i) (Ad (14 + 3 * i), .inr (2, ([.int (σ.1 2 i 0), .int (σ.1 2 i 1), .int (σ.1 2 i 2), .int (σ.1 2 i 3), .int (σ.1 2 i 4), .int (σ.1 2 i 5), .int (σ.1 2 i 6), .int (σ.1 2 i 7), .int (σ.1 2 i 8), .int (σ.1 2 i 9), .int (σ.1 2 i 10), .int (σ.1 2 i 11), .int (σ.1 2 i 12), .int (σ.1 2 i 13), .int (σ.1 2 i 14), .int (σ.1 2 i 15), .ref (Ad (14 + 3 * i + 1)), .ref (Ad (14 + 3 * i + 2))] : List Value).set 10 (.int v))) = wX cy Ad (si σ 2 i 10 v) := wX_si (14 + 3 * i) (by omega) (by omega) 2 i (kx_C i h) 10 v _ (by rcases (show i = 0 ∨ i = 1 ∨ i = 2 ∨ i = 3 ∨ i = 4 ∨ i = 5 ∨ i = 6 ∨ i = 7 by omega) with rfl | rfl | rfl | rfl | rfl | rfl | rfl | rfl <;> rfl)
theorem sx_C_11 {cy : Nat → ClassId} {Ad : Nat → Nat} {σ : St} {i : Nat} (h : i < 8) (v : Int32) : (wX cy Ad σ).set (14 + 3 * i) (Ad (14 + 3 * i), .inr (2, ([.int (σ.1 2 i 0), .int (σ.1 2 i 1), .int (σ.1 2 i 2), .int (σ.1 2 i 3), .int (σ.1 2 i 4), .int (σ.1 2 i 5), .int (σ.1 2 i 6), .int (σ.1 2 i 7), .int (σ.1 2 i 8), .int (σ.1 2 i 9), .int (σ.1 2 i 10), .int (σ.1 2 i 11), .int (σ.1 2 i 12), .int (σ.1 2 i 13), .int (σ.1 2 i 14), .int (σ.1 2 i 15), .ref (Ad (14 + 3 * i + 1)), .ref (Ad (14 + 3 * i + 2))] : List Value).set 11 (.int v))) = wX cy Ad (si σ 2 i 11 v) := wX_si (14 + 3 * i) (by omega) (by omega) 2 i (kx_C i h) 11 v _ (by rcases (show i = 0 ∨ i = 1 ∨ i = 2 ∨ i = 3 ∨ i = 4 ∨ i = 5 ∨ i = 6 ∨ i = 7 by omega) with rfl | rfl | rfl | rfl | rfl | rfl | rfl | rfl <;> rfl)
theorem sx_C_12 {cy : Nat → ClassId} {Ad : Nat → Nat} {σ : St} {i : Nat} (h : i < 8) (v : Int32) : (wX cy Ad σ).set (14 + 3 * i) (Ad (14 + 3 * i), .inr (2, ([.int (σ.1 2 i 0), .int (σ.1 2 i 1), .int (σ.1 2 i 2), .int (σ.1 2 i 3), .int (σ.1 2 i 4), .int (σ.1 2 i 5), .int (σ.1 2 i 6), .int (σ.1 2 i 7), .int (σ.1 2 i 8), .int (σ.1 2 i 9), .int (σ.1 2 i 10), .int (σ.1 2 i 11), .int (σ.1 2 i 12), .int (σ.1 2 i 13), .int (σ.1 2 i 14), .int (σ.1 2 i 15), .ref (Ad (14 + 3 * i + 1)), .ref (Ad (14 + 3 * i + 2))] : List Value).set 12 (.int v))) = wX cy Ad (si σ 2 i 12 v) := wX_si (14 + 3 * i) (by omega) (by omega) 2 i (kx_C i h) 12 v _ (by rcases (show i = 0 ∨ i = 1 ∨ i = 2 ∨ i = 3 ∨ i = 4 ∨ i = 5 ∨ i = 6 ∨ i = 7 by omega) with rfl | rfl | rfl | rfl | rfl | rfl | rfl | rfl <;> rfl)
theorem sx_C_13 {cy : Nat → ClassId} {Ad : Nat → Nat} {σ : St} {i : Nat} (h : i < 8) (v : Int32) : (wX cy Ad σ).set (14 + 3 * i) (Ad (14 + 3 * i), .inr (2, ([.int (σ.1 2 i 0), .int (σ.1 2 i 1), .int (σ.1 2 i 2), .int (σ.1 2 i 3), .int (σ.1 2 i 4), .int (σ.1 2 i 5), .int (σ.1 2 i 6), .int (σ.1 2 i 7), .int (σ.1 2 i 8), .int (σ.1 2 i 9), .int (σ.1 2 i 10), .int (σ.1 2 i 11), .int (σ.1 2 i 12), .int (σ.1 2 i 13), .int (σ.1 2 i 14), .int (σ.1 2 i 15), .ref (Ad (14 + 3 * i + 1)), .ref (Ad (14 + 3 * i + 2))] : List Value).set 13 (.int v))) = wX cy Ad (si σ 2 i 13 v) := wX_si (14 + 3 * i) (by omega) (by omega) 2 i (kx_C i h) 13 v _ (by rcases (show i = 0 ∨ i = 1 ∨ i = 2 ∨ i = 3 ∨ i = 4 ∨ i = 5 ∨ i = 6 ∨ i = 7 by omega) with rfl | rfl | rfl | rfl | rfl | rfl | rfl | rfl <;> rfl)
theorem sx_C_14 {cy : Nat → ClassId} {Ad : Nat → Nat} {σ : St} {i : Nat} (h : i < 8) (v : Int32) : (wX cy Ad σ).set (14 + 3 * i) (Ad (14 + 3 * i), .inr (2, ([.int (σ.1 2 i 0), .int (σ.1 2 i 1), .int (σ.1 2 i 2), .int (σ.1 2 i 3), .int (σ.1 2 i 4), .int (σ.1 2 i 5), .int (σ.1 2 i 6), .int (σ.1 2 i 7), .int (σ.1 2 i 8), .int (σ.1 2 i 9), .int (σ.1 2 i 10), .int (σ.1 2 i 11), .int (σ.1 2 i 12), .int (σ.1 2 i 13), .int (σ.1 2 i 14), .int (σ.1 2 i 15), .ref (Ad (14 + 3 * i + 1)), .ref (Ad (14 + 3 * i + 2))] : List Value).set 14 (.int v))) = wX cy Ad (si σ 2 i 14 v) := wX_si (14 + 3 * i) (by omega) (by omega) 2 i (kx_C i h) 14 v _ (by rcases (show i = 0 ∨ i = 1 ∨ i = 2 ∨ i = 3 ∨ i = 4 ∨ i = 5 ∨ i = 6 ∨ i = 7 by omega) with rfl | rfl | rfl | rfl | rfl | rfl | rfl | rfl <;> rfl)
theorem sx_C_15 {cy : Nat → ClassId} {Ad : Nat → Nat} {σ : St} {i : Nat} (h : i < 8) (v : Int32) : (wX cy Ad σ).set (14 + 3 * i) (Ad (14 + 3 * i), .inr (2, ([.int (σ.1 2 i 0), .int (σ.1 2 i 1), .int (σ.1 2 i 2), .int (σ.1 2 i 3), .int (σ.1 2 i 4), .int (σ.1 2 i 5), .int (σ.1 2 i 6), .int (σ.1 2 i 7), .int (σ.1 2 i 8), .int (σ.1 2 i 9), .int (σ.1 2 i 10), .int (σ.1 2 i 11), .int (σ.1 2 i 12), .int (σ.1 2 i 13), .int (σ.1 2 i 14), .int (σ.1 2 i 15), .ref (Ad (14 + 3 * i + 1)), .ref (Ad (14 + 3 * i + 2))] : List Value).set 15 (.int v))) = wX cy Ad (si σ 2 i 15 v) := wX_si (14 + 3 * i) (by omega) (by omega) 2 i (kx_C i h) 15 v _ (by rcases (show i = 0 ∨ i = 1 ∨ i = 2 ∨ i = 3 ∨ i = 4 ∨ i = 5 ∨ i = 6 ∨ i = 7 by omega) with rfl | rfl | rfl | rfl | rfl | rfl | rfl | rfl <;> rfl)
theorem kx_S : ∀ i, i < 12 → kX (45 + i) = (7, i) := by decide +kernel
theorem wx_S {cy : Nat → ClassId} {Ad : Nat → Nat} {σ : St} {i : Nat} (h : i < 12) : (wX cy Ad σ)[45 + i]? = some (Ad (45 + i), .inr (7, [.int (σ.1 7 i 0), .int (σ.1 7 i 1), .int (σ.1 7 i 2), .int (σ.1 7 i 3), .int (σ.1 7 i 4), .int (σ.1 7 i 5), .int (σ.1 7 i 6)])) := wX_at (45 + i) (by omega) 7 i (kx_S i h) _ (by rcases (show i = 0 ∨ i = 1 ∨ i = 2 ∨ i = 3 ∨ i = 4 ∨ i = 5 ∨ i = 6 ∨ i = 7 ∨ i = 8 ∨ i = 9 ∨ i = 10 ∨ i = 11 by omega) with rfl | rfl | rfl | rfl | rfl | rfl | rfl | rfl | rfl | rfl | rfl | rfl <;> rfl)
theorem sx_S_0 {cy : Nat → ClassId} {Ad : Nat → Nat} {σ : St} {i : Nat} (h : i < 12) (v : Int32) : (wX cy Ad σ).set (45 + i) (Ad (45 + i), .inr (7, ([.int (σ.1 7 i 0), .int (σ.1 7 i 1), .int (σ.1 7 i 2), .int (σ.1 7 i 3), .int (σ.1 7 i 4), .int (σ.1 7 i 5), .int (σ.1 7 i 6)] : List Value).set 0 (.int v))) = wX cy Ad (si σ 7 i 0 v) := wX_si (45 + i) (by omega) (by omega) 7 i (kx_S i h) 0 v _ (by rcases (show i = 0 ∨ i = 1 ∨ i = 2 ∨ i = 3 ∨ i = 4 ∨ i = 5 ∨ i = 6 ∨ i = 7 ∨ i = 8 ∨ i = 9 ∨ i = 10 ∨ i = 11 by omega) with rfl | rfl | rfl | rfl | rfl | rfl | rfl | rfl | rfl | rfl | rfl | rfl <;> rfl)
theorem sx_S_1 {cy : Nat → ClassId} {Ad : Nat → Nat} {σ : St} {i : Nat} (h : i < 12) (v : Int32) : (wX cy Ad σ).set (45 + i) (Ad (45 + i), .inr (7, ([.int (σ.1 7 i 0), .int (σ.1 7 i 1), .int (σ.1 7 i 2), .int (σ.1 7 i 3), .int (σ.1 7 i 4), .int (σ.1 7 i 5), .int (σ.1 7 i 6)] : List Value).set 1 (.int v))) = wX cy Ad (si σ 7 i 1 v) := wX_si (45 + i) (by omega) (by omega) 7 i (kx_S i h) 1 v _ (by rcases (show i = 0 ∨ i = 1 ∨ i = 2 ∨ i = 3 ∨ i = 4 ∨ i = 5 ∨ i = 6 ∨ i = 7 ∨ i = 8 ∨ i = 9 ∨ i = 10 ∨ i = 11 by omega) with rfl | rfl | rfl | rfl | rfl | rfl | rfl | rfl | rfl | rfl | rfl | rfl <;> rfl)
theorem sx_S_2 {cy : Nat → ClassId} {Ad : Nat → Nat} {σ : St} {i : Nat} (h : i < 12) (v : Int32) : (wX cy Ad σ).set (45 + i) (Ad (45 + i), .inr (7, ([.int (σ.1 7 i 0), .int (σ.1 7 i 1), .int (σ.1 7 i 2), .int (σ.1 7 i 3), .int (σ.1 7 i 4), .int (σ.1 7 i 5), .int (σ.1 7 i 6)] : List Value).set 2 (.int v))) = wX cy Ad (si σ 7 i 2 v) := wX_si (45 + i) (by omega) (by omega) 7 i (kx_S i h) 2 v _ (by rcases (show i = 0 ∨ i = 1 ∨ i = 2 ∨ i = 3 ∨ i = 4 ∨ i = 5 ∨ i = 6 ∨ i = 7 ∨ i = 8 ∨ i = 9 ∨ i = 10 ∨ i = 11 by omega) with rfl | rfl | rfl | rfl | rfl | rfl | rfl | rfl | rfl | rfl | rfl | rfl <;> rfl)
theorem sx_S_3 {cy : Nat → ClassId} {Ad : Nat → Nat} {σ : St} {i : Nat} (h : i < 12) (v : Int32) : (wX cy Ad σ).set (45 + i) (Ad (45 + i), .inr (7, ([.int (σ.1 7 i 0), .int (σ.1 7 i 1), .int (σ.1 7 i 2), .int (σ.1 7 i 3), .int (σ.1 7 i 4), .int (σ.1 7 i 5), .int (σ.1 7 i 6)] : List Value).set 3 (.int v))) = wX cy Ad (si σ 7 i 3 v) := wX_si (45 + i) (by omega) (by omega) 7 i (kx_S i h) 3 v _ (by rcases (show i = 0 ∨ i = 1 ∨ i = 2 ∨ i = 3 ∨ i = 4 ∨ i = 5 ∨ i = 6 ∨ i = 7 ∨ i = 8 ∨ i = 9 ∨ i = 10 ∨ i = 11 by omega) with rfl | rfl | rfl | rfl | rfl | rfl | rfl | rfl | rfl | rfl | rfl | rfl <;> rfl)
theorem sx_S_4 {cy : Nat → ClassId} {Ad : Nat → Nat} {σ : St} {i : Nat} (h : i < 12) (v : Int32) : (wX cy Ad σ).set (45 + i) (Ad (45 + i), .inr (7, ([.int (σ.1 7 i 0), .int (σ.1 7 i 1), .int (σ.1 7 i 2), .int (σ.1 7 i 3), .int (σ.1 7 i 4), .int (σ.1 7 i 5), .int (σ.1 7 i 6)] : List Value).set 4 (.int v))) = wX cy Ad (si σ 7 i 4 v) := wX_si (45 + i) (by omega) (by omega) 7 i (kx_S i h) 4 v _ (by rcases (show i = 0 ∨ i = 1 ∨ i = 2 ∨ i = 3 ∨ i = 4 ∨ i = 5 ∨ i = 6 ∨ i = 7 ∨ i = 8 ∨ i = 9 ∨ i = 10 ∨ i = 11 by omega) with rfl | rfl | rfl | rfl | rfl | rfl | rfl | rfl | rfl | rfl | rfl | rfl <;> rfl)
theorem sx_S_5 {cy : Nat → ClassId} {Ad : Nat → Nat} {σ : St} {i : Nat} (h : i < 12) (v : Int32) : (wX cy Ad σ).set (45 + i) (Ad (45 + i), .inr (7, ([.int (σ.1 7 i 0), .int (σ.1 7 i 1), .int (σ.1 7 i 2), .int (σ.1 7 i 3), .int (σ.1 7 i 4), .int (σ.1 7 i 5), .int (σ.1 7 i 6)] : List Value).set 5 (.int v))) = wX cy Ad (si σ 7 i 5 v) := wX_si (45 + i) (by omega) (by omega) 7 i (kx_S i h) 5 v _ (by rcases (show i = 0 ∨ i = 1 ∨ i = 2 ∨ i = 3 ∨ i = 4 ∨ i = 5 ∨ i = 6 ∨ i = 7 ∨ i = 8 ∨ i = 9 ∨ i = 10 ∨ i = 11 by omega) with rfl | rfl | rfl | rfl | rfl | rfl | rfl | rfl | rfl | rfl | rfl | rfl <;> rfl)
theorem sx_S_6 {cy : Nat → ClassId} {Ad : Nat → Nat} {σ : St} {i : Nat} (h : i < 12) (v : Int32) : (wX cy Ad σ).set (45 + i) (Ad (45 + i), .inr (7, ([.int (σ.1 7 i 0), .int (σ.1 7 i 1), .int (σ.1 7 i 2), .int (σ.1 7 i 3), .int (σ.1 7 i 4), .int (σ.1 7 i 5), .int (σ.1 7 i 6)] : List Value).set 6 (.int v))) = wX cy Ad (si σ 7 i 6 v) := wX_si (45 + i) (by omega) (by omega) 7 i (kx_S i h) 6 v _ (by rcases (show i = 0 ∨ i = 1 ∨ i = 2 ∨ i = 3 ∨ i = 4 ∨ i = 5 ∨ i = 6 ∨ i = 7 ∨ i = 8 ∨ i = 9 ∨ i = 10 ∨ i = 11 by omega) with rfl | rfl | rfl | rfl | rfl | rfl | rfl | rfl | rfl | rfl | rfl | rfl <;> rfl)
theorem kx_Cl : ∀ i, i < 8 → kX (14 + 3 * i + 1) = (17, i) := by decide +kernel
theorem wx_Cl {cy : Nat → ClassId} {Ad : Nat → Nat} {σ : St} {i : Nat} (h : i < 8) : (wX cy Ad σ)[14 + 3 * i + 1]? = some (Ad (14 + 3 * i + 1), .inl (cy 0, 8, .inl (σ.1 17 i))) := wX_at (14 + 3 * i + 1) (by omega) 17 i (kx_Cl i h) _ (by rcases (show i = 0 ∨ i = 1 ∨ i = 2 ∨ i = 3 ∨ i = 4 ∨ i = 5 ∨ i = 6 ∨ i = 7 by omega) with rfl | rfl | rfl | rfl | rfl | rfl | rfl | rfl <;> rfl)
theorem sx_Cl {cy : Nat → ClassId} {Ad : Nat → Nat} {σ : St} {i : Nat} (h : i < 8) (j : Nat) (v : Int32) : (wX cy Ad σ).set (14 + 3 * i + 1) (Ad (14 + 3 * i + 1), .inl (cy 0, 8, .inl (upd (σ.1 17 i) j v))) = wX cy Ad (si σ 17 i j v) := wX_si (14 + 3 * i + 1) (by omega) (by omega) 17 i (kx_Cl i h) j v _ (by rcases (show i = 0 ∨ i = 1 ∨ i = 2 ∨ i = 3 ∨ i = 4 ∨ i = 5 ∨ i = 6 ∨ i = 7 by omega) with rfl | rfl | rfl | rfl | rfl | rfl | rfl | rfl <;> rfl)
theorem kx_Ct : ∀ i, i < 8 → kX (14 + 3 * i + 2) = (18, i) := by decide +kernel
theorem wx_Ct {cy : Nat → ClassId} {Ad : Nat → Nat} {σ : St} {i : Nat} (h : i < 8) : (wX cy Ad σ)[14 + 3 * i + 2]? = some (Ad (14 + 3 * i + 2), .inl (cy 0, 8, .inl (σ.1 18 i))) := wX_at (14 + 3 * i + 2) (by omega) 18 i (kx_Ct i h) _ (by rcases (show i = 0 ∨ i = 1 ∨ i = 2 ∨ i = 3 ∨ i = 4 ∨ i = 5 ∨ i = 6 ∨ i = 7 by omega) with rfl | rfl | rfl | rfl | rfl | rfl | rfl | rfl <;> rfl)
theorem sx_Ct {cy : Nat → ClassId} {Ad : Nat → Nat} {σ : St} {i : Nat} (h : i < 8) (j : Nat) (v : Int32) : (wX cy Ad σ).set (14 + 3 * i + 2) (Ad (14 + 3 * i + 2), .inl (cy 0, 8, .inl (upd (σ.1 18 i) j v))) = wX cy Ad (si σ 18 i j v) := wX_si (14 + 3 * i + 2) (by omega) (by omega) 18 i (kx_Ct i h) j v _ (by rcases (show i = 0 ∨ i = 1 ∨ i = 2 ∨ i = 3 ∨ i = 4 ∨ i = 5 ∨ i = 6 ∨ i = 7 by omega) with rfl | rfl | rfl | rfl | rfl | rfl | rfl | rfl <;> rfl)
theorem wx_G {cy : Nat → ClassId} {Ad : Nat → Nat} {σ : St} {i : Nat} (h : i < 2) : (wX cy Ad σ)[3 + 4 * i]? = some (Ad (3 + 4 * i), .inr (4, [.int (σ.1 4 i 0), .int (σ.1 4 i 1), .ref (Ad (3 + 4 * i + 1))])) := wX_at (3 + 4 * i) (by omega) 4 i (by rcases (show i = 0 ∨ i = 1 by omega) with rfl | rfl <;> rfl) _ (by rcases (show i = 0 ∨ i = 1 by omega) with rfl | rfl <;> rfl)
theorem sx_G_0 {cy : Nat → ClassId} {Ad : Nat → Nat} {σ : St} {i : Nat} (h : i < 2) (v : Int32) : (wX cy Ad σ).set (3 + 4 * i) (Ad (3 + 4 * i), .inr (4, ([.int (σ.1 4 i 0), .int (σ.1 4 i 1), .ref (Ad (3 + 4 * i + 1))] : List Value).set 0 (.int v))) = wX cy Ad (si σ 4 i 0 v) := wX_si (3 + 4 * i) (by omega) (by omega) 4 i (by rcases (show i = 0 ∨ i = 1 by omega) with rfl | rfl <;> rfl) 0 v _ (by rcases (show i = 0 ∨ i = 1 by omega) with rfl | rfl <;> rfl)
theorem sx_G_1 {cy : Nat → ClassId} {Ad : Nat → Nat} {σ : St} {i : Nat} (h : i < 2) (v : Int32) : (wX cy Ad σ).set (3 + 4 * i) (Ad (3 + 4 * i), .inr (4, ([.int (σ.1 4 i 0), .int (σ.1 4 i 1), .ref (Ad (3 + 4 * i + 1))] : List Value).set 1 (.int v))) = wX cy Ad (si σ 4 i 1 v) := wX_si (3 + 4 * i) (by omega) (by omega) 4 i (by rcases (show i = 0 ∨ i = 1 by omega) with rfl | rfl <;> rfl) 1 v _ (by rcases (show i = 0 ∨ i = 1 by omega) with rfl | rfl <;> rfl)
theorem wx_A {cy : Nat → ClassId} {Ad : Nat → Nat} {σ : St} {i : Nat} (h : i < 2) : (wX cy Ad σ)[43 + i]? = some (Ad (43 + i), .inr (0, [.int (σ.1 0 i 0), .int (σ.1 0 i 1), .int (σ.1 0 i 2)])) := wX_at (43 + i) (by omega) 0 i (by rcases (show i = 0 ∨ i = 1 by omega) with rfl | rfl <;> rfl) _ (by rcases (show i = 0 ∨ i = 1 by omega) with rfl | rfl <;> rfl)
theorem sx_A_0 {cy : Nat → ClassId} {Ad : Nat → Nat} {σ : St} {i : Nat} (h : i < 2) (v : Int32) : (wX cy Ad σ).set (43 + i) (Ad (43 + i), .inr (0, ([.int (σ.1 0 i 0), .int (σ.1 0 i 1), .int (σ.1 0 i 2)] : List Value).set 0 (.int v))) = wX cy Ad (si σ 0 i 0 v) := wX_si (43 + i) (by omega) (by omega) 0 i (by rcases (show i = 0 ∨ i = 1 by omega) with rfl | rfl <;> rfl) 0 v _ (by rcases (show i = 0 ∨ i = 1 by omega) with rfl | rfl <;> rfl)
theorem sx_A_1 {cy : Nat → ClassId} {Ad : Nat → Nat} {σ : St} {i : Nat} (h : i < 2) (v : Int32) : (wX cy Ad σ).set (43 + i) (Ad (43 + i), .inr (0, ([.int (σ.1 0 i 0), .int (σ.1 0 i 1), .int (σ.1 0 i 2)] : List Value).set 1 (.int v))) = wX cy Ad (si σ 0 i 1 v) := wX_si (43 + i) (by omega) (by omega) 0 i (by rcases (show i = 0 ∨ i = 1 by omega) with rfl | rfl <;> rfl) 1 v _ (by rcases (show i = 0 ∨ i = 1 by omega) with rfl | rfl <;> rfl)
theorem sx_A_2 {cy : Nat → ClassId} {Ad : Nat → Nat} {σ : St} {i : Nat} (h : i < 2) (v : Int32) : (wX cy Ad σ).set (43 + i) (Ad (43 + i), .inr (0, ([.int (σ.1 0 i 0), .int (σ.1 0 i 1), .int (σ.1 0 i 2)] : List Value).set 2 (.int v))) = wX cy Ad (si σ 0 i 2 v) := wX_si (43 + i) (by omega) (by omega) 0 i (by rcases (show i = 0 ∨ i = 1 by omega) with rfl | rfl <;> rfl) 2 v _ (by rcases (show i = 0 ∨ i = 1 by omega) with rfl | rfl <;> rfl)
theorem wx_Ge {cy : Nat → ClassId} {Ad : Nat → Nat} {σ : St} {i : Nat} (h : i < 2) : (wX cy Ad σ)[3 + 4 * i + 1]? = some (Ad (3 + 4 * i + 1), .inl (cy 0, 54, .inl (σ.1 11 i))) := wX_at (3 + 4 * i + 1) (by omega) 11 i (by rcases (show i = 0 ∨ i = 1 by omega) with rfl | rfl <;> rfl) _ (by rcases (show i = 0 ∨ i = 1 by omega) with rfl | rfl <;> rfl)
theorem sx_Ge {cy : Nat → ClassId} {Ad : Nat → Nat} {σ : St} {i : Nat} (h : i < 2) (j : Nat) (v : Int32) : (wX cy Ad σ).set (3 + 4 * i + 1) (Ad (3 + 4 * i + 1), .inl (cy 0, 54, .inl (upd (σ.1 11 i) j v))) = wX cy Ad (si σ 11 i j v) := wX_si (3 + 4 * i + 1) (by omega) (by omega) 11 i (by rcases (show i = 0 ∨ i = 1 by omega) with rfl | rfl <;> rfl) j v _ (by rcases (show i = 0 ∨ i = 1 by omega) with rfl | rfl <;> rfl)
