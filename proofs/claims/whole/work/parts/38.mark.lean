/-! the slots of a circuit get an owner -/
def s16 (σ : St) (w : Nat → Int32) : St := (fun a b c => if a = 16 ∧ b = 0 then w c else σ.1 a b c, σ.2)
theorem s16_k {σ : St} {w : Nat → Int32} {a : Nat} (h : a ≠ 16) : (s16 σ w).1 a = σ.1 a := by
  funext b c
  show (if a = 16 ∧ b = 0 then w c else σ.1 a b c) = _
  rw [if_neg (fun z => h z.1)]
theorem s16_w {σ : St} {w : Nat → Int32} : (s16 σ w).1 16 0 = w := by
  funext c
  show (if 16 = 16 ∧ 0 = 0 then w c else σ.1 16 0 c) = _
  rw [if_pos ⟨rfl, rfl⟩]
theorem s16_si {σ : St} {w : Nat → Int32} {j : Nat} {v : Int32} : si (s16 σ w) 16 0 j v = s16 σ (upd w j v) := by
  unfold si s16 upd
  congr 1
  funext a b c
  by_cases h : a = 16 ∧ b = 0
  · obtain ⟨rfl, rfl⟩ := h
    by_cases hc : c = j <;> simp [hc]
  · rw [if_neg (fun z => h ⟨z.1, z.2.1⟩), if_neg h]
    dsimp only
    rw [if_neg h]
theorem s16_self (σ : St) : s16 σ (σ.1 16 0) = σ := by
  unfold s16
  have : (fun a b c => if a = 16 ∧ b = 0 then σ.1 16 0 c else σ.1 a b c) = σ.1 := by
    funext a b c
    by_cases h : a = 16 ∧ b = 0
    · obtain ⟨rfl, rfl⟩ := h
      rw [if_pos ⟨rfl, rfl⟩]
    · rw [if_neg h]
  rw [this]
theorem foldl_ite {α : Type} (v : Int32) (g : (Nat → Int32) → α → (Nat → Int32)) (A : α → Nat → Bool) (hg : ∀ w x j, g w x j = if A x j then v else w j) : ∀ (l : List α) (w : Nat → Int32) (j : Nat), (l.foldl g w) j = if l.any (fun x => A x j) then v else w j
  | [], w, j => by simp
  | x :: l, w, j => by
    rw [List.foldl_cons, foldl_ite v g A hg l, List.any_cons, hg]
    cases A x j <;> cases l.any (fun x => A x j) <;> simp
/-- the slots as the class sees them: at place p, by start t -/
def mk1 (σ : St) (S st c : Nat) (v : Int32) (p : Nat) (w : Nat → Int32) (t : Nat) : Nat → Int32 := if st.testBit t then upd w (10 * nN (σ.1 17 c p) + (t + p) % S) v else w
def mk2 (σ : St) (S st c : Nat) (v : Int32) (w : Nat → Int32) (p : Nat) : Nat → Int32 := (List.range S).foldl (mk1 σ S st c v p) w
def mkW (σ : St) (S st c hp : Nat) (v : Int32) : Nat → Int32 := (List.range (hp + 2)).foldl (mk2 σ S st c v) (σ.1 16 0)
theorem mkW_eq (σ : St) (S st c hp : Nat) (v : Int32) (j : Nat) : mkW σ S st c hp v j = if (List.range (hp + 2)).any (fun p => (List.range S).any (fun t => st.testBit t && decide (j = 10 * nN (σ.1 17 c p) + (t + p) % S))) then v else σ.1 16 0 j := by
  unfold mkW
  refine foldl_ite v (mk2 σ S st c v) (fun p j => (List.range S).any (fun t => st.testBit t && decide (j = 10 * nN (σ.1 17 c p) + (t + p) % S))) ?_ _ _ _
  intro w p j
  unfold mk2
  refine foldl_ite v (mk1 σ S st c v p) (fun t j => st.testBit t && decide (j = 10 * nN (σ.1 17 c p) + (t + p) % S)) ?_ _ _ _
  intro w t j
  unfold mk1
  cases st.testBit t
  · simp
  · simp only [if_true, Bool.true_and, decide_eq_true_eq]
    rfl
theorem slotOf_eq {σ : St} {S t p : Nat} (e : σ.1 1 0 1 = nI S) (hS : 0 < S ∧ S ≤ 10) (ht : t < 100) (hp : p < 100) : f_X1_slotOf σ (nI t) (nI p) = some (nI ((t + p) % S)) := by
  unfold f_X1_slotOf
  rw [e, if_neg (nltL 1 1 rfl hS.1 (by omega))]
  simp only [chk, if_pos (nI_ne0 hS.1 (show S < 2 ^ 31 by omega)), nI_add, nI_rem (show t + p < 2 ^ 31 by omega) (show S < 2 ^ 31 by omega)]
theorem mark_eq {σ : St} {S st c hp : Nat} {v : Int32} (eS : σ.1 1 0 1 = nI S) (hS : 0 < S ∧ S ≤ 10) (est : σ.1 2 c 15 = nI st) (hst : st < 1024) (ehp : σ.1 2 c 6 = nI hp) (hhp : hp ≤ 6) (hlk : ∀ p, p < hp + 2 → ∃ l, l < 54 ∧ σ.1 17 c p = nI l) : f_X1_mark σ c v = some (s16 σ (mkW σ S st c hp v)) := by
  have inner : ∀ (K : St → Int32 → Option St) (p : Nat), p < hp + 2 → ∀ w, f_X1_mark_L13 K c v (nI p) FU (s16 σ w) 0 = K (s16 σ (mk2 σ S st c v w p)) (nI (p + 1)) := by
    intro K p hp2 w
    obtain ⟨l, hl, el⟩ := hlk p hp2
    have enl : nN (σ.1 17 c p) = l := by unfold nN; rw [el, clL (by omega)]
    have key := loopM (A := Nat → Int32) (fun n w u => f_X1_mark_L13 K c v (nI p) n (s16 σ w) u) (fun m t w => K (s16 σ ((List.range' t m).foldl (mk1 σ S st c v p) w)) (nI (p + 1))) S ?_ ?_ S 0 FU w (by omega) (FU_lt (by omega))
    · unfold mk2
      rw [List.range_eq_range']
      exact key
    · intro n m t w ht ih
      have hmod : (t + p) % S < S := Nat.mod_lt _ hS.1
      rw [foldl_r', ← ih]
      show f_X1_mark_L13b K c v (nI p) (f_X1_mark_L13 K c v (nI p) n) (s16 σ w) (nI t) = _
      have e1 : (s16 σ w).1 1 0 1 = nI S := by rw [s16_k (by decide)]; exact eS
      have e2 : (s16 σ w).1 2 c 15 = nI st := by rw [s16_k (by decide)]; exact est
      have e3 : (s16 σ w).1 17 c p = nI l := by rw [s16_k (by decide)]; exact el
      have eix : (10 : Int32) * nI l + nI ((t + p) % S) = nI (10 * l + (t + p) % S) := by rw [show (10 : Int32) = nI 10 from rfl, nI_mul, nI_add]
      simp only [f_X1_mark_L13b, e1, if_pos (nI_lt (show t < S by omega) (show S < 2 ^ 31 by omega)), hasStart_eq e2 hst (show t < 16 by omega), Option.bind_some, linkAt_eq (show p < 8 by omega), e3, slotOf_eq e1 hS (show t < 100 by omega) (show p < 100 by omega), f_X1_setOwner, isLN hl, show ¬ (1 : Int32) = 0 from by decide, if_false, if_pos (nI_pos' (show (t + p) % S < 2 ^ 31 by omega)), if_pos (ltL 10 10 rfl (show (t + p) % S < 10 by omega) (by decide)), eix, chk, if_pos (inbL (show 10 * l + (t + p) % S < 540 by omega) (by decide)), clL (show 10 * l + (t + p) % S < 2 ^ 31 by omega), bnd, s16_si, nI_1, bz_0, mk1, enl]
      cases st.testBit t <;> simp
    · intro n w
      show f_X1_mark_L13b K c v (nI p) (f_X1_mark_L13 K c v (nI p) n) (s16 σ w) (nI S) = _
      have e1 : (s16 σ w).1 1 0 1 = nI S := by rw [s16_k (by decide)]; exact eS
      simp only [f_X1_mark_L13b, e1, if_neg (nI_nlt (Nat.le_refl S) (show S < 2 ^ 31 by omega)), nI_1]
      rfl
  have key := loopM (A := Nat → Int32) (fun n w u => f_X1_mark_L2 c v n (s16 σ w) u) (fun m p w => some (s16 σ ((List.range' p m).foldl (mk2 σ S st c v) w))) (hp + 2) ?_ ?_ (hp + 2) 0 FU (σ.1 16 0) (by omega) (FU_lt (by omega))
  · unfold mkW
    rw [List.range_eq_range', ← key, s16_self]
    rfl
  · intro n m p w hp2 ih
    rw [foldl_r', ← ih]
    show f_X1_mark_L2b c v (f_X1_mark_L2 c v n) (s16 σ w) (nI p) = _
    have e1 : (s16 σ w).1 2 c 6 = nI hp := by rw [s16_k (by decide)]; exact ehp
    simp only [f_X1_mark_L2b, places_eq e1 hhp, Option.bind_some, if_pos (nI_lt (show p < hp + 2 by omega) (show hp + 2 < 2 ^ 31 by omega))]
    rw [inner _ p (by omega)]
  · intro n w
    show f_X1_mark_L2b c v (f_X1_mark_L2 c v n) (s16 σ w) (nI (hp + 2)) = _
    have e1 : (s16 σ w).1 2 c 6 = nI hp := by rw [s16_k (by decide)]; exact ehp
    simp only [f_X1_mark_L2b, places_eq e1 hhp, Option.bind_some, if_neg (nI_nlt (Nat.le_refl (hp + 2)) (show hp + 2 < 2 ^ 31 by omega))]
    rfl
