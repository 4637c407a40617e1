def bM (cy : Nat → ClassId) (Ad : Nat → Nat) (c : Nat) (f : Nat → Int32) (lg : Nat → Int64) : va_E := match c with
  | 1 => .inl (cy 1, 54, .inl f)
  | 2 => .inl (cy 0, 54, .inl f)
  | 3 => .inl (cy 0, 30, .inl f)
  | 4 => .inl (cy 1, 8, .inl f)
  | 5 => .inl (cy 0, 8, .inl f)
  | 6 => .inl (cy 0, 8, .inl f)
  | 7 => .inl (cy 0, 8, .inl f)
  | 8 => .inl (cy 0, 8, .inl f)
  | 9 => .inl (cy 0, 8, .inl f)
  | 10 => .inl (cy 0, 8, .inl f)
  | 11 => .inl (cy 0, 64, .inl f)
  | 12 => .inl (cy 0, 8, .inl f)
  | 13 => .inl (cy 0, 8, .inl f)
  | 14 => .inl (cy 0, 8, .inl f)
  | 15 => .inl (cy 0, 8, .inl f)
  | 16 => .inl (cy 0, 8, .inl f)
  | 17 => .inl (cy 0, 8, .inl f)
  | 18 => .inl (cy 0, 8, .inl f)
  | 19 => .inl (cy 0, 8, .inl f)
  | 20 => .inl (cy 0, 96, .inl f)
  | 21 => .inl (cy 0, 96, .inl f)
  | 22 => .inl (cy 0, 96, .inl f)
  | 23 => .inl (cy 0, 96, .inl f)
  | 24 => .inl (cy 0, 12, .inl f)
  | 25 => .inl (cy 0, 12, .inl f)
  | 26 => .inl (cy 1, 12, .inl f)
  | 27 => .inl (cy 0, 12, .inl f)
  | 28 => .inl (cy 0, 12, .inl f)
  | 29 => .inl (cy 0, 2, .inl f)
  | 30 => .inl (cy 0, 2, .inl f)
  | 31 => .inl (cy 0, 2, .inl f)
  | 32 => .inl (cy 1, 54, .inl f)
  | 33 => .inl (cy 0, 8, .inl f)
  | 34 => .inl (cy 1, 9, .inl f)
  | 35 => .inl (cy 0, 12, .inl f)
  | 36 => .inl (cy 1, 12, .inl f)
  | _ => .inr (11, [.int (f 0), .int (f 1), .int (f 2), .int (f 3), .int (f 4), .ref (Ad 1), .ref (Ad 2), .int (f 7), .ref (Ad 3), .ref (Ad 4), .ref (Ad 5), .ref (Ad 6), .ref (Ad 7), .ref (Ad 8), .ref (Ad 9), .ref (Ad 10), .ref (Ad 11), .ref (Ad 12), .ref (Ad 13), .ref (Ad 14), .ref (Ad 15), .ref (Ad 16), .ref (Ad 17), .ref (Ad 18), .ref (Ad 19), .int (f 25), .ref (Ad 20), .ref (Ad 21), .ref (Ad 22), .ref (Ad 23), .int (f 30), .ref (Ad 24), .ref (Ad 25), .ref (Ad 26), .ref (Ad 27), .ref (Ad 28), .ref (Ad 29), .ref (Ad 30), .ref (Ad 31), .int (f 39), .int (f 40), .int (f 41), .int (f 42), .int (f 43), .ref (Ad 32), .int (f 45), .ref (Ad 33), .ref (Ad 34), .ref (Ad 35), .ref (Ad 36), .int (f 50), .long (lg 51), .long (lg 52)])
def kM (c : Nat) : Nat × Nat := match c with
  | 1 => (5, 0)
  | 2 => (6, 0)
  | 3 => (8, 0)
  | 4 => (9, 0)
  | 5 => (10, 0)
  | 6 => (11, 0)
  | 7 => (12, 0)
  | 8 => (13, 0)
  | 9 => (14, 0)
  | 10 => (15, 0)
  | 11 => (16, 0)
  | 12 => (17, 0)
  | 13 => (18, 0)
  | 14 => (19, 0)
  | 15 => (20, 0)
  | 16 => (21, 0)
  | 17 => (22, 0)
  | 18 => (23, 0)
  | 19 => (24, 0)
  | 20 => (26, 0)
  | 21 => (27, 0)
  | 22 => (28, 0)
  | 23 => (29, 0)
  | 24 => (31, 0)
  | 25 => (32, 0)
  | 26 => (33, 0)
  | 27 => (34, 0)
  | 28 => (35, 0)
  | 29 => (36, 0)
  | 30 => (37, 0)
  | 31 => (38, 0)
  | 32 => (44, 0)
  | 33 => (46, 0)
  | 34 => (47, 0)
  | 35 => (48, 0)
  | 36 => (49, 0)
  | _ => (0, 0)
theorem kM_inj : ∀ a, a < 37 → ∀ b, b < 37 → kM a = kM b → a = b := by decide +kernel
def wM (cy : Nat → ClassId) (Ad : Nat → Nat) (σ : St) : va_W := wOf 37 Ad (fun c => bM cy Ad c (σ.1 (kM c).1 (kM c).2) σ.2.2)
theorem wM_at {cy : Nat → ClassId} {Ad : Nat → Nat} {σ : St} (c : Nat) (h : c < 37) (k i : Nat) (hk : kM c = (k, i)) (E : va_E) (hE : bM cy Ad c (σ.1 k i) σ.2.2 = E) : (wM cy Ad σ)[c]? = some (Ad c, E) := by
  unfold wM
  rw [wOf_at c h, hk, hE]
theorem wM_si {cy : Nat → ClassId} {Ad : Nat → Nat} {σ : St} (c : Nat) (h : c < 37) (k i : Nat) (hk : kM c = (k, i)) (j : Nat) (v : Int32) (E : va_E) (hE : bM cy Ad c (fun d => if d = j then v else σ.1 k i d) σ.2.2 = E) : (wM cy Ad σ).set c (Ad c, E) = wM cy Ad (si σ k i j v) := by
  subst hE
  have e : (fun d => if d = j then v else σ.1 k i d) = (si σ k i j v).1 k i := by funext d; simp [si]
  rw [e]
  have h3 := wOf_set (n := 37) (Ad := Ad) (f := fun c => bM cy Ad c (σ.1 (kM c).1 (kM c).2) σ.2.2) (f2 := fun c => bM cy Ad c ((si σ k i j v).1 (kM c).1 (kM c).2) (si σ k i j v).2.2) c (by
    intro d hd hne
    have hne2 : ¬ ((kM d).1 = k ∧ (kM d).2 = i) := fun z => hne (kM_inj d hd c h (by rw [hk]; exact Prod.ext z.1 z.2))
    have : (si σ k i j v).1 (kM d).1 (kM d).2 = σ.1 (kM d).1 (kM d).2 := by
      funext x
      simp only [si]
      rw [if_neg (fun z => hne2 ⟨z.1, z.2.1⟩)]
    rw [this]
    rfl)
  unfold wM
  rw [← h3, hk]
  rfl
theorem bM_lg {cy : Nat → ClassId} {Ad : Nat → Nat} (c : Nat) (f : Nat → Int32) (l1 l2 : Nat → Int64) (hN : c < 37) (h : c ≠ 0) : bM cy Ad c f l1 = bM cy Ad c f l2 := by
  rcases (show c = 1 ∨ c = 2 ∨ c = 3 ∨ c = 4 ∨ c = 5 ∨ c = 6 ∨ c = 7 ∨ c = 8 ∨ c = 9 ∨ c = 10 ∨ c = 11 ∨ c = 12 ∨ c = 13 ∨ c = 14 ∨ c = 15 ∨ c = 16 ∨ c = 17 ∨ c = 18 ∨ c = 19 ∨ c = 20 ∨ c = 21 ∨ c = 22 ∨ c = 23 ∨ c = 24 ∨ c = 25 ∨ c = 26 ∨ c = 27 ∨ c = 28 ∨ c = 29 ∨ c = 30 ∨ c = 31 ∨ c = 32 ∨ c = 33 ∨ c = 34 ∨ c = 35 ∨ c = 36 by omega) with rfl | rfl | rfl | rfl | rfl | rfl | rfl | rfl | rfl | rfl | rfl | rfl | rfl | rfl | rfl | rfl | rfl | rfl | rfl | rfl | rfl | rfl | rfl | rfl | rfl | rfl | rfl | rfl | rfl | rfl | rfl | rfl | rfl | rfl | rfl | rfl <;> rfl
theorem wM_sL {cy : Nat → ClassId} {Ad : Nat → Nat} {σ : St} (j : Nat) (v : Int64) (E : va_E) (hE : bM cy Ad 0 (σ.1 0 0) (fun c => if c = j then v else σ.2.2 c) = E) : (wM cy Ad σ).set 0 (Ad 0, E) = wM cy Ad (sL σ j v) := by
  subst hE
  have h3 := wOf_set (n := 37) (Ad := Ad) (f := fun c => bM cy Ad c (σ.1 (kM c).1 (kM c).2) σ.2.2) (f2 := fun c => bM cy Ad c ((sL σ j v).1 (kM c).1 (kM c).2) (sL σ j v).2.2) 0 (by
    intro d hd hne
    exact bM_lg d _ _ _ hd hne)
  unfold wM
  rw [← h3]
  rfl
theorem wM_D {cy : Nat → ClassId} {Ad : Nat → Nat} (h : AdOK 37 Ad) (σ : St) : va_D (AdA 37 Ad) (wM cy Ad σ) := wOf_D h
theorem wm_0 {cy : Nat → ClassId} {Ad : Nat → Nat} {σ : St} : (wM cy Ad σ)[0]? = some (Ad 0, .inr (11, [.int (σ.1 0 0 0), .int (σ.1 0 0 1), .int (σ.1 0 0 2), .int (σ.1 0 0 3), .int (σ.1 0 0 4), .ref (Ad 1), .ref (Ad 2), .int (σ.1 0 0 7), .ref (Ad 3), .ref (Ad 4), .ref (Ad 5), .ref (Ad 6), .ref (Ad 7), .ref (Ad 8), .ref (Ad 9), .ref (Ad 10), .ref (Ad 11), .ref (Ad 12), .ref (Ad 13), .ref (Ad 14), .ref (Ad 15), .ref (Ad 16), .ref (Ad 17), .ref (Ad 18), .ref (Ad 19), .int (σ.1 0 0 25), .ref (Ad 20), .ref (Ad 21), .ref (Ad 22), .ref (Ad 23), .int (σ.1 0 0 30), .ref (Ad 24), .ref (Ad 25), .ref (Ad 26), .ref (Ad 27), .ref (Ad 28), .ref (Ad 29), .ref (Ad 30), .ref (Ad 31), .int (σ.1 0 0 39), .int (σ.1 0 0 40), .int (σ.1 0 0 41), .int (σ.1 0 0 42), .int (σ.1 0 0 43), .ref (Ad 32), .int (σ.1 0 0 45), .ref (Ad 33), .ref (Ad 34), .ref (Ad 35), .ref (Ad 36), .int (σ.1 0 0 50), .long (σ.2.2 51), .long (σ.2.2 52)])) := wM_at 0 (by decide) 0 0 rfl _ rfl
theorem sm_0_0 {cy : Nat → ClassId} {Ad : Nat → Nat} {σ : St} (v : Int32) : (wM cy Ad σ).set 0 (Ad 0, .inr (11, ([.int (σ.1 0 0 0), .int (σ.1 0 0 1), .int (σ.1 0 0 2), .int (σ.1 0 0 3), .int (σ.1 0 0 4), .ref (Ad 1), .ref (Ad 2), .int (σ.1 0 0 7), .ref (Ad 3), .ref (Ad 4), .ref (Ad 5), .ref (Ad 6), .ref (Ad 7), .ref (Ad 8), .ref (Ad 9), .ref (Ad 10), .ref (Ad 11), .ref (Ad 12), .ref (Ad 13), .ref (Ad 14), .ref (Ad 15), .ref (Ad 16), .ref (Ad 17), .ref (Ad 18), .ref (Ad 19), .int (σ.1 0 0 25), .ref (Ad 20), .ref (Ad 21), .ref (Ad 22), .ref (Ad 23), .int (σ.1 0 0 30), .ref (Ad 24), .ref (Ad 25), .ref (Ad 26), .ref (Ad 27), .ref (Ad 28), .ref (Ad 29), .ref (Ad 30), .ref (Ad 31), .int (σ.1 0 0 39), .int (σ.1 0 0 40), .int (σ.1 0 0 41), .int (σ.1 0 0 42), .int (σ.1 0 0 43), .ref (Ad 32), .int (σ.1 0 0 45), .ref (Ad 33), .ref (Ad 34), .ref (Ad 35), .ref (Ad 36), .int (σ.1 0 0 50), .long (σ.2.2 51), .long (σ.2.2 52)] : List Value).set 0 (.int v))) = wM cy Ad (si σ 0 0 0 v) := wM_si 0 (by decide) 0 0 rfl 0 v _ rfl
theorem sm_0_1 {cy : Nat → ClassId} {Ad : Nat → Nat} {σ : St} (v : Int32) : (wM cy Ad σ).set 0 (Ad 0, .inr (11, ([.int (σ.1 0 0 0), .int (σ.1 0 0 1), .int (σ.1 0 0 2), .int (σ.1 0 0 3), .int (σ.1 0 0 4), .ref (Ad 1), .ref (Ad 2), .int (σ.1 0 0 7), .ref (Ad 3), .ref (Ad 4), .ref (Ad 5), .ref (Ad 6), .ref (Ad 7), .ref (Ad 8), .ref (Ad 9), .ref (Ad 10), .ref (Ad 11), .ref (Ad 12), .ref (Ad 13), .ref (Ad 14), .ref (Ad 15), .ref (Ad 16), .ref (Ad 17), .ref (Ad 18), .ref (Ad 19), .int (σ.1 0 0 25), .ref (Ad 20), .ref (Ad 21), .ref (Ad 22), .ref (Ad 23), .int (σ.1 0 0 30), .ref (Ad 24), .ref (Ad 25), .ref (Ad 26), .ref (Ad 27), .ref (Ad 28), .ref (Ad 29), .ref (Ad 30), .ref (Ad 31), .int (σ.1 0 0 39), .int (σ.1 0 0 40), .int (σ.1 0 0 41), .int (σ.1 0 0 42), .int (σ.1 0 0 43), .ref (Ad 32), .int (σ.1 0 0 45), .ref (Ad 33), .ref (Ad 34), .ref (Ad 35), .ref (Ad 36), .int (σ.1 0 0 50), .long (σ.2.2 51), .long (σ.2.2 52)] : List Value).set 1 (.int v))) = wM cy Ad (si σ 0 0 1 v) := wM_si 0 (by decide) 0 0 rfl 1 v _ rfl
theorem sm_0_2 {cy : Nat → ClassId} {Ad : Nat → Nat} {σ : St} (v : Int32) : (wM cy Ad σ).set 0 (Ad 0, .inr (11, ([.int (σ.1 0 0 0), .int (σ.1 0 0 1), .int (σ.1 0 0 2), .int (σ.1 0 0 3), .int (σ.1 0 0 4), .ref (Ad 1), .ref (Ad 2), .int (σ.1 0 0 7), .ref (Ad 3), .ref (Ad 4), .ref (Ad 5), .ref (Ad 6), .ref (Ad 7), .ref (Ad 8), .ref (Ad 9), .ref (Ad 10), .ref (Ad 11), .ref (Ad 12), .ref (Ad 13), .ref (Ad 14), .ref (Ad 15), .ref (Ad 16), .ref (Ad 17), .ref (Ad 18), .ref (Ad 19), .int (σ.1 0 0 25), .ref (Ad 20), .ref (Ad 21), .ref (Ad 22), .ref (Ad 23), .int (σ.1 0 0 30), .ref (Ad 24), .ref (Ad 25), .ref (Ad 26), .ref (Ad 27), .ref (Ad 28), .ref (Ad 29), .ref (Ad 30), .ref (Ad 31), .int (σ.1 0 0 39), .int (σ.1 0 0 40), .int (σ.1 0 0 41), .int (σ.1 0 0 42), .int (σ.1 0 0 43), .ref (Ad 32), .int (σ.1 0 0 45), .ref (Ad 33), .ref (Ad 34), .ref (Ad 35), .ref (Ad 36), .int (σ.1 0 0 50), .long (σ.2.2 51), .long (σ.2.2 52)] : List Value).set 2 (.int v))) = wM cy Ad (si σ 0 0 2 v) := wM_si 0 (by decide) 0 0 rfl 2 v _ rfl
theorem sm_0_3 {cy : Nat → ClassId} {Ad : Nat → Nat} {σ : St} (v : Int32) : (wM cy Ad σ).set 0 (Ad 0, .inr (11, ([.int (σ.1 0 0 0), .int (σ.1 0 0 1), .int (σ.1 0 0 2), .int (σ.1 0 0 3), .int (σ.1 0 0 4), .ref (Ad 1), .ref (Ad 2), .int (σ.1 0 0 7), .ref (Ad 3), .ref (Ad 4), .ref (Ad 5), .ref (Ad 6), .ref (Ad 7), .ref (Ad 8), .ref (Ad 9), .ref (Ad 10), .ref (Ad 11), .ref (Ad 12), .ref (Ad 13), .ref (Ad 14), .ref (Ad 15), .ref (Ad 16), .ref (Ad 17), .ref (Ad 18), .ref (Ad 19), .int (σ.1 0 0 25), .ref (Ad 20), .ref (Ad 21), .ref (Ad 22), .ref (Ad 23), .int (σ.1 0 0 30), .ref (Ad 24), .ref (Ad 25), .ref (Ad 26), .ref (Ad 27), .ref (Ad 28), .ref (Ad 29), .ref (Ad 30), .ref (Ad 31), .int (σ.1 0 0 39), .int (σ.1 0 0 40), .int (σ.1 0 0 41), .int (σ.1 0 0 42), .int (σ.1 0 0 43), .ref (Ad 32), .int (σ.1 0 0 45), .ref (Ad 33), .ref (Ad 34), .ref (Ad 35), .ref (Ad 36), .int (σ.1 0 0 50), .long (σ.2.2 51), .long (σ.2.2 52)] : List Value).set 3 (.int v))) = wM cy Ad (si σ 0 0 3 v) := wM_si 0 (by decide) 0 0 rfl 3 v _ rfl
theorem sm_0_4 {cy : Nat → ClassId} {Ad : Nat → Nat} {σ : St} (v : Int32) : (wM cy Ad σ).set 0 (Ad 0, .inr (11, ([.int (σ.1 0 0 0), .int (σ.1 0 0 1), .int (σ.1 0 0 2), .int (σ.1 0 0 3), .int (σ.1 0 0 4), .ref (Ad 1), .ref (Ad 2), .int (σ.1 0 0 7), .ref (Ad 3), .ref (Ad 4), .ref (Ad 5), .ref (Ad 6), .ref (Ad 7), .ref (Ad 8), .ref (Ad 9), .ref (Ad 10), .ref (Ad 11), .ref (Ad 12), .ref (Ad 13), .ref (Ad 14), .ref (Ad 15), .ref (Ad 16), .ref (Ad 17), .ref (Ad 18), .ref (Ad 19), .int (σ.1 0 0 25), .ref (Ad 20), .ref (Ad 21), .ref (Ad 22), .ref (Ad 23), .int (σ.1 0 0 30), .ref (Ad 24), .ref (Ad 25), .ref (Ad 26), .ref (Ad 27), .ref (Ad 28), .ref (Ad 29), .ref (Ad 30), .ref (Ad 31), .int (σ.1 0 0 39), .int (σ.1 0 0 40), .int (σ.1 0 0 41), .int (σ.1 0 0 42), .int (σ.1 0 0 43), .ref (Ad 32), .int (σ.1 0 0 45), .ref (Ad 33), .ref (Ad 34), .ref (Ad 35), .ref (Ad 36), .int (σ.1 0 0 50), .long (σ.2.2 51), .long (σ.2.2 52)] : List Value).set 4 (.int v))) = wM cy Ad (si σ 0 0 4 v) := wM_si 0 (by decide) 0 0 rfl 4 v _ rfl
theorem sm_0_7 {cy : Nat → ClassId} {Ad : Nat → Nat} {σ : St} (v : Int32) : (wM cy Ad σ).set 0 (Ad 0, .inr (11, ([.int (σ.1 0 0 0), .int (σ.1 0 0 1), .int (σ.1 0 0 2), .int (σ.1 0 0 3), .int (σ.1 0 0 4), .ref (Ad 1), .ref (Ad 2), .int (σ.1 0 0 7), .ref (Ad 3), .ref (Ad 4), .ref (Ad 5), .ref (Ad 6), .ref (Ad 7), .ref (Ad 8), .ref (Ad 9), .ref (Ad 10), .ref (Ad 11), .ref (Ad 12), .ref (Ad 13), .ref (Ad 14), .ref (Ad 15), .ref (Ad 16), .ref (Ad 17), .ref (Ad 18), .ref (Ad 19), .int (σ.1 0 0 25), .ref (Ad 20), .ref (Ad 21), .ref (Ad 22), .ref (Ad 23), .int (σ.1 0 0 30), .ref (Ad 24), .ref (Ad 25), .ref (Ad 26), .ref (Ad 27), .ref (Ad 28), .ref (Ad 29), .ref (Ad 30), .ref (Ad 31), .int (σ.1 0 0 39), .int (σ.1 0 0 40), .int (σ.1 0 0 41), .int (σ.1 0 0 42), .int (σ.1 0 0 43), .ref (Ad 32), .int (σ.1 0 0 45), .ref (Ad 33), .ref (Ad 34), .ref (Ad 35), .ref (Ad 36), .int (σ.1 0 0 50), .long (σ.2.2 51), .long (σ.2.2 52)] : List Value).set 7 (.int v))) = wM cy Ad (si σ 0 0 7 v) := wM_si 0 (by decide) 0 0 rfl 7 v _ rfl
theorem sm_0_25 {cy : Nat → ClassId} {Ad : Nat → Nat} {σ : St} (v : Int32) : (wM cy Ad σ).set 0 (Ad 0, .inr (11, ([.int (σ.1 0 0 0), .int (σ.1 0 0 1), .int (σ.1 0 0 2), .int (σ.1 0 0 3), .int (σ.1 0 0 4), .ref (Ad 1), .ref (Ad 2), .int (σ.1 0 0 7), .ref (Ad 3), .ref (Ad 4), .ref (Ad 5), .ref (Ad 6), .ref (Ad 7), .ref (Ad 8), .ref (Ad 9), .ref (Ad 10), .ref (Ad 11), .ref (Ad 12), .ref (Ad 13), .ref (Ad 14), .ref (Ad 15), .ref (Ad 16), .ref (Ad 17), .ref (Ad 18), .ref (Ad 19), .int (σ.1 0 0 25), .ref (Ad 20), .ref (Ad 21), .ref (Ad 22), .ref (Ad 23), .int (σ.1 0 0 30), .ref (Ad 24), .ref (Ad 25), .ref (Ad 26), .ref (Ad 27), .ref (Ad 28), .ref (Ad 29), .ref (Ad 30), .ref (Ad 31), .int (σ.1 0 0 39), .int (σ.1 0 0 40), .int (σ.1 0 0 41), .int (σ.1 0 0 42), .int (σ.1 0 0 43), .ref (Ad 32), .int (σ.1 0 0 45), .ref (Ad 33), .ref (Ad 34), .ref (Ad 35), .ref (Ad 36), .int (σ.1 0 0 50), .long (σ.2.2 51), .long (σ.2.2 52)] : List Value).set 25 (.int v))) = wM cy Ad (si σ 0 0 25 v) := wM_si 0 (by decide) 0 0 rfl 25 v _ rfl
theorem sm_0_30 {cy : Nat → ClassId} {Ad : Nat → Nat} {σ : St} (v : Int32) : (wM cy Ad σ).set 0 (Ad 0, .inr (11, ([.int (σ.1 0 0 0), .int (σ.1 0 0 1), .int (σ.1 0 0 2), .int (σ.1 0 0 3), .int (σ.1 0 0 4), .ref (Ad 1), .ref (Ad 2), .int (σ.1 0 0 7), .ref (Ad 3), .ref (Ad 4), .ref (Ad 5), .ref (Ad 6), .ref (Ad 7), .ref (Ad 8), .ref (Ad 9), .ref (Ad 10), .ref (Ad 11), .ref (Ad 12), .ref (Ad 13), .ref (Ad 14), .ref (Ad 15), .ref (Ad 16), .ref (Ad 17), .ref (Ad 18), .ref (Ad 19), .int (σ.1 0 0 25), .ref (Ad 20), .ref (Ad 21), .ref (Ad 22), .ref (Ad 23), .int (σ.1 0 0 30), .ref (Ad 24), .ref (Ad 25), .ref (Ad 26), .ref (Ad 27), .ref (Ad 28), .ref (Ad 29), .ref (Ad 30), .ref (Ad 31), .int (σ.1 0 0 39), .int (σ.1 0 0 40), .int (σ.1 0 0 41), .int (σ.1 0 0 42), .int (σ.1 0 0 43), .ref (Ad 32), .int (σ.1 0 0 45), .ref (Ad 33), .ref (Ad 34), .ref (Ad 35), .ref (Ad 36), .int (σ.1 0 0 50), .long (σ.2.2 51), .long (σ.2.2 52)] : List Value).set 30 (.int v))) = wM cy Ad (si σ 0 0 30 v) := wM_si 0 (by decide) 0 0 rfl 30 v _ rfl
theorem sm_0_39 {cy : Nat → ClassId} {Ad : Nat → Nat} {σ : St} (v : Int32) : (wM cy Ad σ).set 0 (Ad 0, .inr (11, ([.int (σ.1 0 0 0), .int (σ.1 0 0 1), .int (σ.1 0 0 2), .int (σ.1 0 0 3), .int (σ.1 0 0 4), .ref (Ad 1), .ref (Ad 2), .int (σ.1 0 0 7), .ref (Ad 3), .ref (Ad 4), .ref (Ad 5), .ref (Ad 6), .ref (Ad 7), .ref (Ad 8), .ref (Ad 9), .ref (Ad 10), .ref (Ad 11), .ref (Ad 12), .ref (Ad 13), .ref (Ad 14), .ref (Ad 15), .ref (Ad 16), .ref (Ad 17), .ref (Ad 18), .ref (Ad 19), .int (σ.1 0 0 25), .ref (Ad 20), .ref (Ad 21), .ref (Ad 22), .ref (Ad 23), .int (σ.1 0 0 30), .ref (Ad 24), .ref (Ad 25), .ref (Ad 26), .ref (Ad 27), .ref (Ad 28), .ref (Ad 29), .ref (Ad 30), .ref (Ad 31), .int (σ.1 0 0 39), .int (σ.1 0 0 40), .int (σ.1 0 0 41), .int (σ.1 0 0 42), .int (σ.1 0 0 43), .ref (Ad 32), .int (σ.1 0 0 45), .ref (Ad 33), .ref (Ad 34), .ref (Ad 35), .ref (Ad 36), .int (σ.1 0 0 50), .long (σ.2.2 51), .long (σ.2.2 52)] : List Value).set 39 (.int v))) = wM cy Ad (si σ 0 0 39 v) := wM_si 0 (by decide) 0 0 rfl 39 v _ rfl
theorem sm_0_40 {cy : Nat → ClassId} {Ad : Nat → Nat} {σ : St} (v : Int32) : (wM cy Ad σ).set 0 (Ad 0, .inr (11, ([.int (σ.1 0 0 0), .int (σ.1 0 0 1), .int (σ.1 0 0 2), .int (σ.1 0 0 3), .int (σ.1 0 0 4), .ref (Ad 1), .ref (Ad 2), .int (σ.1 0 0 7), .ref (Ad 3), .ref (Ad 4), .ref (Ad 5), .ref (Ad 6), .ref (Ad 7), .ref (Ad 8), .ref (Ad 9), .ref (Ad 10), .ref (Ad 11), .ref (Ad 12), .ref (Ad 13), .ref (Ad 14), .ref (Ad 15), .ref (Ad 16), .ref (Ad 17), .ref (Ad 18), .ref (Ad 19), .int (σ.1 0 0 25), .ref (Ad 20), .ref (Ad 21), .ref (Ad 22), .ref (Ad 23), .int (σ.1 0 0 30), .ref (Ad 24), .ref (Ad 25), .ref (Ad 26), .ref (Ad 27), .ref (Ad 28), .ref (Ad 29), .ref (Ad 30), .ref (Ad 31), .int (σ.1 0 0 39), .int (σ.1 0 0 40), .int (σ.1 0 0 41), .int (σ.1 0 0 42), .int (σ.1 0 0 43), .ref (Ad 32), .int (σ.1 0 0 45), .ref (Ad 33), .ref (Ad 34), .ref (Ad 35), .ref (Ad 36), .int (σ.1 0 0 50), .long (σ.2.2 51), .long (σ.2.2 52)] : List Value).set 40 (.int v))) = wM cy Ad (si σ 0 0 40 v) := wM_si 0 (by decide) 0 0 rfl 40 v _ rfl
theorem sm_0_41 {cy : Nat → ClassId} {Ad : Nat → Nat} {σ : St} (v : Int32) : (wM cy Ad σ).set 0 (Ad 0, .inr (11, ([.int (σ.1 0 0 0), .int (σ.1 0 0 1), .int (σ.1 0 0 2), .int (σ.1 0 0 3), .int (σ.1 0 0 4), .ref (Ad 1), .ref (Ad 2), .int (σ.1 0 0 7), .ref (Ad 3), .ref (Ad 4), .ref (Ad 5), .ref (Ad 6), .ref (Ad 7), .ref (Ad 8), .ref (Ad 9), .ref (Ad 10), .ref (Ad 11), .ref (Ad 12), .ref (Ad 13), .ref (Ad 14), .ref (Ad 15), .ref (Ad 16), .ref (Ad 17), .ref (Ad 18), .ref (Ad 19), .int (σ.1 0 0 25), .ref (Ad 20), .ref (Ad 21), .ref (Ad 22), .ref (Ad 23), .int (σ.1 0 0 30), .ref (Ad 24), .ref (Ad 25), .ref (Ad 26), .ref (Ad 27), .ref (Ad 28), .ref (Ad 29), .ref (Ad 30), .ref (Ad 31), .int (σ.1 0 0 39), .int (σ.1 0 0 40), .int (σ.1 0 0 41), .int (σ.1 0 0 42), .int (σ.1 0 0 43), .ref (Ad 32), .int (σ.1 0 0 45), .ref (Ad 33), .ref (Ad 34), .ref (Ad 35), .ref (Ad 36), .int (σ.1 0 0 50), .long (σ.2.2 51), .long (σ.2.2 52)] : List Value).set 41 (.int v))) = wM cy Ad (si σ 0 0 41 v) := wM_si 0 (by decide) 0 0 rfl 41 v _ rfl
theorem sm_0_42 {cy : Nat → ClassId} {Ad : Nat → Nat} {σ : St} (v : Int32) : (wM cy Ad σ).set 0 (Ad 0, .inr (11, ([.int (σ.1 0 0 0), .int (σ.1 0 0 1), .int (σ.1 0 0 2), .int (σ.1 0 0 3), .int (σ.1 0 0 4), .ref (Ad 1), .ref (Ad 2), .int (σ.1 0 0 7), .ref (Ad 3), .ref (Ad 4), .ref (Ad 5), .ref (Ad 6), .ref (Ad 7), .ref (Ad 8), .ref (Ad 9), .ref (Ad 10), .ref (Ad 11), .ref (Ad 12), .ref (Ad 13), .ref (Ad 14), .ref (Ad 15), .ref (Ad 16), .ref (Ad 17), .ref (Ad 18), .ref (Ad 19), .int (σ.1 0 0 25), .ref (Ad 20), .ref (Ad 21), .ref (Ad 22), .ref (Ad 23), .int (σ.1 0 0 30), .ref (Ad 24), .ref (Ad 25), .ref (Ad 26), .ref (Ad 27), .ref (Ad 28), .ref (Ad 29), .ref (Ad 30), .ref (Ad 31), .int (σ.1 0 0 39), .int (σ.1 0 0 40), .int (σ.1 0 0 41), .int (σ.1 0 0 42), .int (σ.1 0 0 43), .ref (Ad 32), .int (σ.1 0 0 45), .ref (Ad 33), .ref (Ad 34), .ref (Ad 35), .ref (Ad 36), .int (σ.1 0 0 50), .long (σ.2.2 51), .long (σ.2.2 52)] : List Value).set 42 (.int v))) = wM cy Ad (si σ 0 0 42 v) := wM_si 0 (by decide) 0 0 rfl 42 v _ rfl
theorem sm_0_43 {cy : Nat → ClassId} {Ad : Nat → Nat} {σ : St} (v : Int32) : (wM cy Ad σ).set 0 (Ad 0, .inr (11, ([.int (σ.1 0 0 0), .int (σ.1 0 0 1), .int (σ.1 0 0 2), .int (σ.1 0 0 3), .int (σ.1 0 0 4), .ref (Ad 1), .ref (Ad 2), .int (σ.1 0 0 7), .ref (Ad 3), .ref (Ad 4), .ref (Ad 5), .ref (Ad 6), .ref (Ad 7), .ref (Ad 8), .ref (Ad 9), .ref (Ad 10), .ref (Ad 11), .ref (Ad 12), .ref (Ad 13), .ref (Ad 14), .ref (Ad 15), .ref (Ad 16), .ref (Ad 17), .ref (Ad 18), .ref (Ad 19), .int (σ.1 0 0 25), .ref (Ad 20), .ref (Ad 21), .ref (Ad 22), .ref (Ad 23), .int (σ.1 0 0 30), .ref (Ad 24), .ref (Ad 25), .ref (Ad 26), .ref (Ad 27), .ref (Ad 28), .ref (Ad 29), .ref (Ad 30), .ref (Ad 31), .int (σ.1 0 0 39), .int (σ.1 0 0 40), .int (σ.1 0 0 41), .int (σ.1 0 0 42), .int (σ.1 0 0 43), .ref (Ad 32), .int (σ.1 0 0 45), .ref (Ad 33), .ref (Ad 34), .ref (Ad 35), .ref (Ad 36), .int (σ.1 0 0 50), .long (σ.2.2 51), .long (σ.2.2 52)] : List Value).set 43 (.int v))) = wM cy Ad (si σ 0 0 43 v) := wM_si 0 (by decide) 0 0 rfl 43 v _ rfl
theorem sm_0_45 {cy : Nat → ClassId} {Ad : Nat → Nat} {σ : St} (v : Int32) : (wM cy Ad σ).set 0 (Ad 0, .inr (11, ([.int (σ.1 0 0 0), .int (σ.1 0 0 1), .int (σ.1 0 0 2), .int (σ.1 0 0 3), .int (σ.1 0 0 4), .ref (Ad 1), .ref (Ad 2), .int (σ.1 0 0 7), .ref (Ad 3), .ref (Ad 4), .ref (Ad 5), .ref (Ad 6), .ref (Ad 7), .ref (Ad 8), .ref (Ad 9), .ref (Ad 10), .ref (Ad 11), .ref (Ad 12), .ref (Ad 13), .ref (Ad 14), .ref (Ad 15), .ref (Ad 16), .ref (Ad 17), .ref (Ad 18), .ref (Ad 19), .int (σ.1 0 0 25), .ref (Ad 20), .ref (Ad 21), .ref (Ad 22), .ref (Ad 23), .int (σ.1 0 0 30), .ref (Ad 24), .ref (Ad 25), .ref (Ad 26), .ref (Ad 27), .ref (Ad 28), .ref (Ad 29), .ref (Ad 30), .ref (Ad 31), .int (σ.1 0 0 39), .int (σ.1 0 0 40), .int (σ.1 0 0 41), .int (σ.1 0 0 42), .int (σ.1 0 0 43), .ref (Ad 32), .int (σ.1 0 0 45), .ref (Ad 33), .ref (Ad 34), .ref (Ad 35), .ref (Ad 36), .int (σ.1 0 0 50), .long (σ.2.2 51), .long (σ.2.2 52)] : List Value).set 45 (.int v))) = wM cy Ad (si σ 0 0 45 v) := wM_si 0 (by decide) 0 0 rfl 45 v _ rfl
theorem sm_0_50 {cy : Nat → ClassId} {Ad : Nat → Nat} {σ : St} (v : Int32) : (wM cy Ad σ).set 0 (Ad 0, .inr (11, ([.int (σ.1 0 0 0), .int (σ.1 0 0 1), .int (σ.1 0 0 2), .int (σ.1 0 0 3), .int (σ.1 0 0 4), .ref (Ad 1), .ref (Ad 2), .int (σ.1 0 0 7), .ref (Ad 3), .ref (Ad 4), .ref (Ad 5), .ref (Ad 6), .ref (Ad 7), .ref (Ad 8), .ref (Ad 9), .ref (Ad 10), .ref (Ad 11), .ref (Ad 12), .ref (Ad 13), .ref (Ad 14), .ref (Ad 15), .ref (Ad 16), .ref (Ad 17), .ref (Ad 18), .ref (Ad 19), .int (σ.1 0 0 25), .ref (Ad 20), .ref (Ad 21), .ref (Ad 22), .ref (Ad 23), .int (σ.1 0 0 30), .ref (Ad 24), .ref (Ad 25), .ref (Ad 26), .ref (Ad 27), .ref (Ad 28), .ref (Ad 29), .ref (Ad 30), .ref (Ad 31), .int (σ.1 0 0 39), .int (σ.1 0 0 40), .int (σ.1 0 0 41), .int (σ.1 0 0 42), .int (σ.1 0 0 43), .ref (Ad 32), .int (σ.1 0 0 45), .ref (Ad 33), .ref (Ad 34), .ref (Ad 35), .ref (Ad 36), .int (σ.1 0 0 50), .long (σ.2.2 51), .long (σ.2.2 52)] : List Value).set 50 (.int v))) = wM cy Ad (si σ 0 0 50 v) := wM_si 0 (by decide) 0 0 rfl 50 v _ rfl
theorem sm_0_51 {cy : Nat → ClassId} {Ad : Nat → Nat} {σ : St} (v : Int64) : (wM cy Ad σ).set 0 (Ad 0, .inr (11, ([.int (σ.1 0 0 0), .int (σ.1 0 0 1), .int (σ.1 0 0 2), .int (σ.1 0 0 3), .int (σ.1 0 0 4), .ref (Ad 1), .ref (Ad 2), .int (σ.1 0 0 7), .ref (Ad 3), .ref (Ad 4), .ref (Ad 5), .ref (Ad 6), .ref (Ad 7), .ref (Ad 8), .ref (Ad 9), .ref (Ad 10), .ref (Ad 11), .ref (Ad 12), .ref (Ad 13), .ref (Ad 14), .ref (Ad 15), .ref (Ad 16), .ref (Ad 17), .ref (Ad 18), .ref (Ad 19), .int (σ.1 0 0 25), .ref (Ad 20), .ref (Ad 21), .ref (Ad 22), .ref (Ad 23), .int (σ.1 0 0 30), .ref (Ad 24), .ref (Ad 25), .ref (Ad 26), .ref (Ad 27), .ref (Ad 28), .ref (Ad 29), .ref (Ad 30), .ref (Ad 31), .int (σ.1 0 0 39), .int (σ.1 0 0 40), .int (σ.1 0 0 41), .int (σ.1 0 0 42), .int (σ.1 0 0 43), .ref (Ad 32), .int (σ.1 0 0 45), .ref (Ad 33), .ref (Ad 34), .ref (Ad 35), .ref (Ad 36), .int (σ.1 0 0 50), .long (σ.2.2 51), .long (σ.2.2 52)] : List Value).set 51 (.long v))) = wM cy Ad (sL σ 51 v) := wM_sL 51 v _ rfl
theorem sm_0_52 {cy : Nat → ClassId} {Ad : Nat → Nat} {σ : St} (v : Int64) : (wM cy Ad σ).set 0 (Ad 0, .inr (11, ([.int (σ.1 0 0 0), .int (σ.1 0 0 1), .int (σ.1 0 0 2), .int (σ.1 0 0 3), .int (σ.1 0 0 4), .ref (Ad 1), .ref (Ad 2), .int (σ.1 0 0 7), .ref (Ad 3), .ref (Ad 4), .ref (Ad 5), .ref (Ad 6), .ref (Ad 7), .ref (Ad 8), .ref (Ad 9), .ref (Ad 10), .ref (Ad 11), .ref (Ad 12), .ref (Ad 13), .ref (Ad 14), .ref (Ad 15), .ref (Ad 16), .ref (Ad 17), .ref (Ad 18), .ref (Ad 19), .int (σ.1 0 0 25), .ref (Ad 20), .ref (Ad 21), .ref (Ad 22), .ref (Ad 23), .int (σ.1 0 0 30), .ref (Ad 24), .ref (Ad 25), .ref (Ad 26), .ref (Ad 27), .ref (Ad 28), .ref (Ad 29), .ref (Ad 30), .ref (Ad 31), .int (σ.1 0 0 39), .int (σ.1 0 0 40), .int (σ.1 0 0 41), .int (σ.1 0 0 42), .int (σ.1 0 0 43), .ref (Ad 32), .int (σ.1 0 0 45), .ref (Ad 33), .ref (Ad 34), .ref (Ad 35), .ref (Ad 36), .int (σ.1 0 0 50), .long (σ.2.2 51), .long (σ.2.2 52)] : List Value).set 52 (.long v))) = wM cy Ad (sL σ 52 v) := wM_sL 52 v _ rfl
theorem wm_1 {cy : Nat → ClassId} {Ad : Nat → Nat} {σ : St} : (wM cy Ad σ)[1]? = some (Ad 1, .inl (cy 1, 54, .inl (σ.1 5 0))) := wM_at 1 (by decide) 5 0 rfl _ rfl
theorem sm_1 {cy : Nat → ClassId} {Ad : Nat → Nat} {σ : St} (j : Nat) (v : Int32) : (wM cy Ad σ).set 1 (Ad 1, .inl (cy 1, 54, .inl (upd (σ.1 5 0) j v))) = wM cy Ad (si σ 5 0 j v) := wM_si 1 (by decide) 5 0 rfl j v _ rfl
theorem wm_2 {cy : Nat → ClassId} {Ad : Nat → Nat} {σ : St} : (wM cy Ad σ)[2]? = some (Ad 2, .inl (cy 0, 54, .inl (σ.1 6 0))) := wM_at 2 (by decide) 6 0 rfl _ rfl
theorem sm_2 {cy : Nat → ClassId} {Ad : Nat → Nat} {σ : St} (j : Nat) (v : Int32) : (wM cy Ad σ).set 2 (Ad 2, .inl (cy 0, 54, .inl (upd (σ.1 6 0) j v))) = wM cy Ad (si σ 6 0 j v) := wM_si 2 (by decide) 6 0 rfl j v _ rfl
theorem wm_3 {cy : Nat → ClassId} {Ad : Nat → Nat} {σ : St} : (wM cy Ad σ)[3]? = some (Ad 3, .inl (cy 0, 30, .inl (σ.1 8 0))) := wM_at 3 (by decide) 8 0 rfl _ rfl
theorem sm_3 {cy : Nat → ClassId} {Ad : Nat → Nat} {σ : St} (j : Nat) (v : Int32) : (wM cy Ad σ).set 3 (Ad 3, .inl (cy 0, 30, .inl (upd (σ.1 8 0) j v))) = wM cy Ad (si σ 8 0 j v) := wM_si 3 (by decide) 8 0 rfl j v _ rfl
theorem wm_4 {cy : Nat → ClassId} {Ad : Nat → Nat} {σ : St} : (wM cy Ad σ)[4]? = some (Ad 4, .inl (cy 1, 8, .inl (σ.1 9 0))) := wM_at 4 (by decide) 9 0 rfl _ rfl
theorem sm_4 {cy : Nat → ClassId} {Ad : Nat → Nat} {σ : St} (j : Nat) (v : Int32) : (wM cy Ad σ).set 4 (Ad 4, .inl (cy 1, 8, .inl (upd (σ.1 9 0) j v))) = wM cy Ad (si σ 9 0 j v) := wM_si 4 (by decide) 9 0 rfl j v _ rfl
theorem wm_5 {cy : Nat → ClassId} {Ad : Nat → Nat} {σ : St} : (wM cy Ad σ)[5]? = some (Ad 5, .inl (cy 0, 8, .inl (σ.1 10 0))) := wM_at 5 (by decide) 10 0 rfl _ rfl
theorem sm_5 {cy : Nat → ClassId} {Ad : Nat → Nat} {σ : St} (j : Nat) (v : Int32) : (wM cy Ad σ).set 5 (Ad 5, .inl (cy 0, 8, .inl (upd (σ.1 10 0) j v))) = wM cy Ad (si σ 10 0 j v) := wM_si 5 (by decide) 10 0 rfl j v _ rfl
theorem wm_6 {cy : Nat → ClassId} {Ad : Nat → Nat} {σ : St} : (wM cy Ad σ)[6]? = some (Ad 6, .inl (cy 0, 8, .inl (σ.1 11 0))) := wM_at 6 (by decide) 11 0 rfl _ rfl
theorem sm_6 {cy : Nat → ClassId} {Ad : Nat → Nat} {σ : St} (j : Nat) (v : Int32) : (wM cy Ad σ).set 6 (Ad 6, .inl (cy 0, 8, .inl (upd (σ.1 11 0) j v))) = wM cy Ad (si σ 11 0 j v) := wM_si 6 (by decide) 11 0 rfl j v _ rfl
theorem wm_7 {cy : Nat → ClassId} {Ad : Nat → Nat} {σ : St} : (wM cy Ad σ)[7]? = some (Ad 7, .inl (cy 0, 8, .inl (σ.1 12 0))) := wM_at 7 (by decide) 12 0 rfl _ rfl
theorem sm_7 {cy : Nat → ClassId} {Ad : Nat → Nat} {σ : St} (j : Nat) (v : Int32) : (wM cy Ad σ).set 7 (Ad 7, .inl (cy 0, 8, .inl (upd (σ.1 12 0) j v))) = wM cy Ad (si σ 12 0 j v) := wM_si 7 (by decide) 12 0 rfl j v _ rfl
theorem wm_8 {cy : Nat → ClassId} {Ad : Nat → Nat} {σ : St} : (wM cy Ad σ)[8]? = some (Ad 8, .inl (cy 0, 8, .inl (σ.1 13 0))) := wM_at 8 (by decide) 13 0 rfl _ rfl
theorem sm_8 {cy : Nat → ClassId} {Ad : Nat → Nat} {σ : St} (j : Nat) (v : Int32) : (wM cy Ad σ).set 8 (Ad 8, .inl (cy 0, 8, .inl (upd (σ.1 13 0) j v))) = wM cy Ad (si σ 13 0 j v) := wM_si 8 (by decide) 13 0 rfl j v _ rfl
theorem wm_9 {cy : Nat → ClassId} {Ad : Nat → Nat} {σ : St} : (wM cy Ad σ)[9]? = some (Ad 9, .inl (cy 0, 8, .inl (σ.1 14 0))) := wM_at 9 (by decide) 14 0 rfl _ rfl
theorem sm_9 {cy : Nat → ClassId} {Ad : Nat → Nat} {σ : St} (j : Nat) (v : Int32) : (wM cy Ad σ).set 9 (Ad 9, .inl (cy 0, 8, .inl (upd (σ.1 14 0) j v))) = wM cy Ad (si σ 14 0 j v) := wM_si 9 (by decide) 14 0 rfl j v _ rfl
theorem wm_10 {cy : Nat → ClassId} {Ad : Nat → Nat} {σ : St} : (wM cy Ad σ)[10]? = some (Ad 10, .inl (cy 0, 8, .inl (σ.1 15 0))) := wM_at 10 (by decide) 15 0 rfl _ rfl
theorem sm_10 {cy : Nat → ClassId} {Ad : Nat → Nat} {σ : St} (j : Nat) (v : Int32) : (wM cy Ad σ).set 10 (Ad 10, .inl (cy 0, 8, .inl (upd (σ.1 15 0) j v))) = wM cy Ad (si σ 15 0 j v) := wM_si 10 (by decide) 15 0 rfl j v _ rfl
theorem wm_11 {cy : Nat → ClassId} {Ad : Nat → Nat} {σ : St} : (wM cy Ad σ)[11]? = some (Ad 11, .inl (cy 0, 64, .inl (σ.1 16 0))) := wM_at 11 (by decide) 16 0 rfl _ rfl
theorem sm_11 {cy : Nat → ClassId} {Ad : Nat → Nat} {σ : St} (j : Nat) (v : Int32) : (wM cy Ad σ).set 11 (Ad 11, .inl (cy 0, 64, .inl (upd (σ.1 16 0) j v))) = wM cy Ad (si σ 16 0 j v) := wM_si 11 (by decide) 16 0 rfl j v _ rfl
theorem wm_12 {cy : Nat → ClassId} {Ad : Nat → Nat} {σ : St} : (wM cy Ad σ)[12]? = some (Ad 12, .inl (cy 0, 8, .inl (σ.1 17 0))) := wM_at 12 (by decide) 17 0 rfl _ rfl
theorem sm_12 {cy : Nat → ClassId} {Ad : Nat → Nat} {σ : St} (j : Nat) (v : Int32) : (wM cy Ad σ).set 12 (Ad 12, .inl (cy 0, 8, .inl (upd (σ.1 17 0) j v))) = wM cy Ad (si σ 17 0 j v) := wM_si 12 (by decide) 17 0 rfl j v _ rfl
theorem wm_13 {cy : Nat → ClassId} {Ad : Nat → Nat} {σ : St} : (wM cy Ad σ)[13]? = some (Ad 13, .inl (cy 0, 8, .inl (σ.1 18 0))) := wM_at 13 (by decide) 18 0 rfl _ rfl
theorem sm_13 {cy : Nat → ClassId} {Ad : Nat → Nat} {σ : St} (j : Nat) (v : Int32) : (wM cy Ad σ).set 13 (Ad 13, .inl (cy 0, 8, .inl (upd (σ.1 18 0) j v))) = wM cy Ad (si σ 18 0 j v) := wM_si 13 (by decide) 18 0 rfl j v _ rfl
theorem wm_14 {cy : Nat → ClassId} {Ad : Nat → Nat} {σ : St} : (wM cy Ad σ)[14]? = some (Ad 14, .inl (cy 0, 8, .inl (σ.1 19 0))) := wM_at 14 (by decide) 19 0 rfl _ rfl
theorem sm_14 {cy : Nat → ClassId} {Ad : Nat → Nat} {σ : St} (j : Nat) (v : Int32) : (wM cy Ad σ).set 14 (Ad 14, .inl (cy 0, 8, .inl (upd (σ.1 19 0) j v))) = wM cy Ad (si σ 19 0 j v) := wM_si 14 (by decide) 19 0 rfl j v _ rfl
theorem wm_15 {cy : Nat → ClassId} {Ad : Nat → Nat} {σ : St} : (wM cy Ad σ)[15]? = some (Ad 15, .inl (cy 0, 8, .inl (σ.1 20 0))) := wM_at 15 (by decide) 20 0 rfl _ rfl
theorem sm_15 {cy : Nat → ClassId} {Ad : Nat → Nat} {σ : St} (j : Nat) (v : Int32) : (wM cy Ad σ).set 15 (Ad 15, .inl (cy 0, 8, .inl (upd (σ.1 20 0) j v))) = wM cy Ad (si σ 20 0 j v) := wM_si 15 (by decide) 20 0 rfl j v _ rfl
theorem wm_16 {cy : Nat → ClassId} {Ad : Nat → Nat} {σ : St} : (wM cy Ad σ)[16]? = some (Ad 16, .inl (cy 0, 8, .inl (σ.1 21 0))) := wM_at 16 (by decide) 21 0 rfl _ rfl
theorem sm_16 {cy : Nat → ClassId} {Ad : Nat → Nat} {σ : St} (j : Nat) (v : Int32) : (wM cy Ad σ).set 16 (Ad 16, .inl (cy 0, 8, .inl (upd (σ.1 21 0) j v))) = wM cy Ad (si σ 21 0 j v) := wM_si 16 (by decide) 21 0 rfl j v _ rfl
theorem wm_17 {cy : Nat → ClassId} {Ad : Nat → Nat} {σ : St} : (wM cy Ad σ)[17]? = some (Ad 17, .inl (cy 0, 8, .inl (σ.1 22 0))) := wM_at 17 (by decide) 22 0 rfl _ rfl
theorem sm_17 {cy : Nat → ClassId} {Ad : Nat → Nat} {σ : St} (j : Nat) (v : Int32) : (wM cy Ad σ).set 17 (Ad 17, .inl (cy 0, 8, .inl (upd (σ.1 22 0) j v))) = wM cy Ad (si σ 22 0 j v) := wM_si 17 (by decide) 22 0 rfl j v _ rfl
theorem wm_18 {cy : Nat → ClassId} {Ad : Nat → Nat} {σ : St} : (wM cy Ad σ)[18]? = some (Ad 18, .inl (cy 0, 8, .inl (σ.1 23 0))) := wM_at 18 (by decide) 23 0 rfl _ rfl
theorem sm_18 {cy : Nat → ClassId} {Ad : Nat → Nat} {σ : St} (j : Nat) (v : Int32) : (wM cy Ad σ).set 18 (Ad 18, .inl (cy 0, 8, .inl (upd (σ.1 23 0) j v))) = wM cy Ad (si σ 23 0 j v) := wM_si 18 (by decide) 23 0 rfl j v _ rfl
theorem wm_19 {cy : Nat → ClassId} {Ad : Nat → Nat} {σ : St} : (wM cy Ad σ)[19]? = some (Ad 19, .inl (cy 0, 8, .inl (σ.1 24 0))) := wM_at 19 (by decide) 24 0 rfl _ rfl
theorem sm_19 {cy : Nat → ClassId} {Ad : Nat → Nat} {σ : St} (j : Nat) (v : Int32) : (wM cy Ad σ).set 19 (Ad 19, .inl (cy 0, 8, .inl (upd (σ.1 24 0) j v))) = wM cy Ad (si σ 24 0 j v) := wM_si 19 (by decide) 24 0 rfl j v _ rfl
theorem wm_20 {cy : Nat → ClassId} {Ad : Nat → Nat} {σ : St} : (wM cy Ad σ)[20]? = some (Ad 20, .inl (cy 0, 96, .inl (σ.1 26 0))) := wM_at 20 (by decide) 26 0 rfl _ rfl
theorem sm_20 {cy : Nat → ClassId} {Ad : Nat → Nat} {σ : St} (j : Nat) (v : Int32) : (wM cy Ad σ).set 20 (Ad 20, .inl (cy 0, 96, .inl (upd (σ.1 26 0) j v))) = wM cy Ad (si σ 26 0 j v) := wM_si 20 (by decide) 26 0 rfl j v _ rfl
theorem wm_21 {cy : Nat → ClassId} {Ad : Nat → Nat} {σ : St} : (wM cy Ad σ)[21]? = some (Ad 21, .inl (cy 0, 96, .inl (σ.1 27 0))) := wM_at 21 (by decide) 27 0 rfl _ rfl
theorem sm_21 {cy : Nat → ClassId} {Ad : Nat → Nat} {σ : St} (j : Nat) (v : Int32) : (wM cy Ad σ).set 21 (Ad 21, .inl (cy 0, 96, .inl (upd (σ.1 27 0) j v))) = wM cy Ad (si σ 27 0 j v) := wM_si 21 (by decide) 27 0 rfl j v _ rfl
theorem wm_22 {cy : Nat → ClassId} {Ad : Nat → Nat} {σ : St} : (wM cy Ad σ)[22]? = some (Ad 22, .inl (cy 0, 96, .inl (σ.1 28 0))) := wM_at 22 (by decide) 28 0 rfl _ rfl
theorem sm_22 {cy : Nat → ClassId} {Ad : Nat → Nat} {σ : St} (j : Nat) (v : Int32) : (wM cy Ad σ).set 22 (Ad 22, .inl (cy 0, 96, .inl (upd (σ.1 28 0) j v))) = wM cy Ad (si σ 28 0 j v) := wM_si 22 (by decide) 28 0 rfl j v _ rfl
theorem wm_23 {cy : Nat → ClassId} {Ad : Nat → Nat} {σ : St} : (wM cy Ad σ)[23]? = some (Ad 23, .inl (cy 0, 96, .inl (σ.1 29 0))) := wM_at 23 (by decide) 29 0 rfl _ rfl
theorem sm_23 {cy : Nat → ClassId} {Ad : Nat → Nat} {σ : St} (j : Nat) (v : Int32) : (wM cy Ad σ).set 23 (Ad 23, .inl (cy 0, 96, .inl (upd (σ.1 29 0) j v))) = wM cy Ad (si σ 29 0 j v) := wM_si 23 (by decide) 29 0 rfl j v _ rfl
theorem wm_24 {cy : Nat → ClassId} {Ad : Nat → Nat} {σ : St} : (wM cy Ad σ)[24]? = some (Ad 24, .inl (cy 0, 12, .inl (σ.1 31 0))) := wM_at 24 (by decide) 31 0 rfl _ rfl
theorem sm_24 {cy : Nat → ClassId} {Ad : Nat → Nat} {σ : St} (j : Nat) (v : Int32) : (wM cy Ad σ).set 24 (Ad 24, .inl (cy 0, 12, .inl (upd (σ.1 31 0) j v))) = wM cy Ad (si σ 31 0 j v) := wM_si 24 (by decide) 31 0 rfl j v _ rfl
theorem wm_25 {cy : Nat → ClassId} {Ad : Nat → Nat} {σ : St} : (wM cy Ad σ)[25]? = some (Ad 25, .inl (cy 0, 12, .inl (σ.1 32 0))) := wM_at 25 (by decide) 32 0 rfl _ rfl
theorem sm_25 {cy : Nat → ClassId} {Ad : Nat → Nat} {σ : St} (j : Nat) (v : Int32) : (wM cy Ad σ).set 25 (Ad 25, .inl (cy 0, 12, .inl (upd (σ.1 32 0) j v))) = wM cy Ad (si σ 32 0 j v) := wM_si 25 (by decide) 32 0 rfl j v _ rfl
theorem wm_26 {cy : Nat → ClassId} {Ad : Nat → Nat} {σ : St} : (wM cy Ad σ)[26]? = some (Ad 26, .inl (cy 1, 12, .inl (σ.1 33 0))) := wM_at 26 (by decide) 33 0 rfl _ rfl
theorem sm_26 {cy : Nat → ClassId} {Ad : Nat → Nat} {σ : St} (j : Nat) (v : Int32) : (wM cy Ad σ).set 26 (Ad 26, .inl (cy 1, 12, .inl (upd (σ.1 33 0) j v))) = wM cy Ad (si σ 33 0 j v) := wM_si 26 (by decide) 33 0 rfl j v _ rfl
theorem wm_27 {cy : Nat → ClassId} {Ad : Nat → Nat} {σ : St} : (wM cy Ad σ)[27]? = some (Ad 27, .inl (cy 0, 12, .inl (σ.1 34 0))) := wM_at 27 (by decide) 34 0 rfl _ rfl
theorem sm_27 {cy : Nat → ClassId} {Ad : Nat → Nat} {σ : St} (j : Nat) (v : Int32) : (wM cy Ad σ).set 27 (Ad 27, .inl (cy 0, 12, .inl (upd (σ.1 34 0) j v))) = wM cy Ad (si σ 34 0 j v) := wM_si 27 (by decide) 34 0 rfl j v _ rfl
theorem wm_28 {cy : Nat → ClassId} {Ad : Nat → Nat} {σ : St} : (wM cy Ad σ)[28]? = some (Ad 28, .inl (cy 0, 12, .inl (σ.1 35 0))) := wM_at 28 (by decide) 35 0 rfl _ rfl
theorem sm_28 {cy : Nat → ClassId} {Ad : Nat → Nat} {σ : St} (j : Nat) (v : Int32) : (wM cy Ad σ).set 28 (Ad 28, .inl (cy 0, 12, .inl (upd (σ.1 35 0) j v))) = wM cy Ad (si σ 35 0 j v) := wM_si 28 (by decide) 35 0 rfl j v _ rfl
theorem wm_29 {cy : Nat → ClassId} {Ad : Nat → Nat} {σ : St} : (wM cy Ad σ)[29]? = some (Ad 29, .inl (cy 0, 2, .inl (σ.1 36 0))) := wM_at 29 (by decide) 36 0 rfl _ rfl
theorem sm_29 {cy : Nat → ClassId} {Ad : Nat → Nat} {σ : St} (j : Nat) (v : Int32) : (wM cy Ad σ).set 29 (Ad 29, .inl (cy 0, 2, .inl (upd (σ.1 36 0) j v))) = wM cy Ad (si σ 36 0 j v) := wM_si 29 (by decide) 36 0 rfl j v _ rfl
theorem wm_30 {cy : Nat → ClassId} {Ad : Nat → Nat} {σ : St} : (wM cy Ad σ)[30]? = some (Ad 30, .inl (cy 0, 2, .inl (σ.1 37 0))) := wM_at 30 (by decide) 37 0 rfl _ rfl
theorem sm_30 {cy : Nat → ClassId} {Ad : Nat → Nat} {σ : St} (j : Nat) (v : Int32) : (wM cy Ad σ).set 30 (Ad 30, .inl (cy 0, 2, .inl (upd (σ.1 37 0) j v))) = wM cy Ad (si σ 37 0 j v) := wM_si 30 (by decide) 37 0 rfl j v _ rfl
theorem wm_31 {cy : Nat → ClassId} {Ad : Nat → Nat} {σ : St} : (wM cy Ad σ)[31]? = some (Ad 31, .inl (cy 0, 2, .inl (σ.1 38 0))) := wM_at 31 (by decide) 38 0 rfl _ rfl
theorem sm_31 {cy : Nat → ClassId} {Ad : Nat → Nat} {σ : St} (j : Nat) (v : Int32) : (wM cy Ad σ).set 31 (Ad 31, .inl (cy 0, 2, .inl (upd (σ.1 38 0) j v))) = wM cy Ad (si σ 38 0 j v) := wM_si 31 (by decide) 38 0 rfl j v _ rfl
theorem wm_32 {cy : Nat → ClassId} {Ad : Nat → Nat} {σ : St} : (wM cy Ad σ)[32]? = some (Ad 32, .inl (cy 1, 54, .inl (σ.1 44 0))) := wM_at 32 (by decide) 44 0 rfl _ rfl
theorem sm_32 {cy : Nat → ClassId} {Ad : Nat → Nat} {σ : St} (j : Nat) (v : Int32) : (wM cy Ad σ).set 32 (Ad 32, .inl (cy 1, 54, .inl (upd (σ.1 44 0) j v))) = wM cy Ad (si σ 44 0 j v) := wM_si 32 (by decide) 44 0 rfl j v _ rfl
theorem wm_33 {cy : Nat → ClassId} {Ad : Nat → Nat} {σ : St} : (wM cy Ad σ)[33]? = some (Ad 33, .inl (cy 0, 8, .inl (σ.1 46 0))) := wM_at 33 (by decide) 46 0 rfl _ rfl
theorem sm_33 {cy : Nat → ClassId} {Ad : Nat → Nat} {σ : St} (j : Nat) (v : Int32) : (wM cy Ad σ).set 33 (Ad 33, .inl (cy 0, 8, .inl (upd (σ.1 46 0) j v))) = wM cy Ad (si σ 46 0 j v) := wM_si 33 (by decide) 46 0 rfl j v _ rfl
theorem wm_34 {cy : Nat → ClassId} {Ad : Nat → Nat} {σ : St} : (wM cy Ad σ)[34]? = some (Ad 34, .inl (cy 1, 9, .inl (σ.1 47 0))) := wM_at 34 (by decide) 47 0 rfl _ rfl
theorem sm_34 {cy : Nat → ClassId} {Ad : Nat → Nat} {σ : St} (j : Nat) (v : Int32) : (wM cy Ad σ).set 34 (Ad 34, .inl (cy 1, 9, .inl (upd (σ.1 47 0) j v))) = wM cy Ad (si σ 47 0 j v) := wM_si 34 (by decide) 47 0 rfl j v _ rfl
theorem wm_35 {cy : Nat → ClassId} {Ad : Nat → Nat} {σ : St} : (wM cy Ad σ)[35]? = some (Ad 35, .inl (cy 0, 12, .inl (σ.1 48 0))) := wM_at 35 (by decide) 48 0 rfl _ rfl
theorem sm_35 {cy : Nat → ClassId} {Ad : Nat → Nat} {σ : St} (j : Nat) (v : Int32) : (wM cy Ad σ).set 35 (Ad 35, .inl (cy 0, 12, .inl (upd (σ.1 48 0) j v))) = wM cy Ad (si σ 48 0 j v) := wM_si 35 (by decide) 48 0 rfl j v _ rfl
theorem wm_36 {cy : Nat → ClassId} {Ad : Nat → Nat} {σ : St} : (wM cy Ad σ)[36]? = some (Ad 36, .inl (cy 1, 12, .inl (σ.1 49 0))) := wM_at 36 (by decide) 49 0 rfl _ rfl
theorem sm_36 {cy : Nat → ClassId} {Ad : Nat → Nat} {σ : St} (j : Nat) (v : Int32) : (wM cy Ad σ).set 36 (Ad 36, .inl (cy 1, 12, .inl (upd (σ.1 49 0) j v))) = wM cy Ad (si σ 49 0 j v) := wM_si 36 (by decide) 49 0 rfl j v _ rfl
