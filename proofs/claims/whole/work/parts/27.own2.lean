def hasB (μ : St) (S c l s : Nat) : Bool := (List.range (hpN μ c + 2)).any (fun p => (List.range S).any (hb1 μ S c l s p))
theorem hasB_iff {μ : St} {S c l s : Nat} : hasB μ S c l s = true ↔ hasS μ S c l s := by
  unfold hasB hasS hb1
  simp only [List.any_eq_true, List.mem_range, Bool.and_eq_true, decide_eq_true_eq]
  constructor
  · rintro ⟨p, hp, t, ht, h1, h2, h3⟩
    exact ⟨p, t, hp, ht, h1, h2, h3⟩
  · rintro ⟨p, t, hp, ht, h1, h2, h3⟩
    exact ⟨p, hp, t, ht, h1, h2, h3⟩
theorem hasSlot_eq {μ : St} {S c l s : Nat} (hS : 0 < S ∧ S ≤ 10) (e2 : μ.1 0 0 2 = nI S) (hc : c < 8) (hl : l < 54) (hs : s < 10) (hh : bd (μ.1 15 0 c) 1 6) (hst : bd (μ.1 17 0 c) 1 (2 ^ S - 1)) :
    f_X12_hasSlot μ (nI c) (nI l) (nI s) = some (bz (hasB μ S c l s)) := by
  obtain ⟨h, h1, h2, eh⟩ := hh
  have ehp : hpN μ c = h := by unfold hpN nN; rw [eh, clL (by omega)]
  have hi : inb (nI c) 8 := inbL hc (by decide)
  have hcl : Int32.toNatClampNeg (nI c) = c := clL (by omega)
  have h2p : nI h + 2 = nI (h + 2) := nI_add h 2
  have key := loopM (A := Bool) (fun n b v => f_X12_hasSlot_L6 μ (nI c) (nI l) (nI s) n (bz b) v) (fun m t b => some (bz (b || (List.range' t m).any (fun p => (List.range S).any (hb1 μ S c l s p))))) (h + 2) ?_ ?_ (h + 2) 0 FU false (by omega) (FU_lt (by omega))
  · unfold hasB
    rw [ehp, List.range_eq_range']
    rw [Bool.false_or] at key
    exact key
  · intro n' m t a ht ih
    show f_X12_hasSlot_L6b μ (nI c) (nI l) (nI s) (f_X12_hasSlot_L6 μ (nI c) (nI l) (nI s) n') (bz a) (nI t) = _
    simp only [f_X12_hasSlot_L6b, chk, if_pos hi, hcl, eh, h2p, if_pos (nI_lt (show t < h + 2 by omega) (show h + 2 < 2 ^ 31 by omega))]
    rw [hasSlot_in hS e2 hc hl hs (by omega) hst]
    have := ih (a || (List.range S).any (hb1 μ S c l s t))
    rw [this, List.range'_succ, List.any_cons, Bool.or_assoc]
  · intro n' a
    show f_X12_hasSlot_L6b μ (nI c) (nI l) (nI s) (f_X12_hasSlot_L6 μ (nI c) (nI l) (nI s) n') (bz a) (nI (h + 2)) = _
    simp only [f_X12_hasSlot_L6b, chk, if_pos hi, hcl, eh, h2p, if_neg (nI_nlt (Nat.le_refl (h + 2)) (show h + 2 < 2 ^ 31 by omega)), if_pos (bz_Z a)]
    simp
/-- the circuits of the reference are well -/
def Mok (S : Nat) (μ : St) : Prop := μ.1 0 0 2 = nI S ∧ ∀ c, c < 8 → isZ (μ.1 9 0 c) ∧ (live μ c → 0 < S ∧ S ≤ 10 ∧ bd (μ.1 15 0 c) 1 6 ∧ bd (μ.1 17 0 c) 1 (2 ^ S - 1))
theorem okWHS.S10 {W H S : Nat} (h : okWHS W H S) : S ≤ 10 := by
  rcases h with ⟨-, -, rfl⟩ | ⟨-, -, -, h⟩ <;> omega
theorem RelP.mok {W H S T k : Nat} {σ μ : St} (h : RelP W H S T k σ μ) : Mok S μ := by
  refine ⟨h.2.2.2.1.2.2.2.2.2.2.1, fun c hc => ⟨(h.2.2.2.2.1 c hc).2.1, fun hl => ?_⟩⟩
  have g := h.of_live hc hl
  exact ⟨g.2.2, h.1.S10, g.2.1.2.2.2.1, g.2.1.2.2.2.2.1⟩
/-- who has slot s of link l, but for one -/
def ownO (μ : St) (S : Nat) (but : Int32) (l s : Nat) : Option Nat := (List.range 8).find? (fun c => decide (μ.1 9 0 c = 1) && (decide (nI c ≠ but) && hasB μ S c l s))
def oI (o : Option Nat) : Int32 := match o with
  | none => -1
  | some c => nI c
theorem ownerOf_eq {μ : St} {S l s : Nat} {but : Int32} (hm : Mok S μ) (hl : l < 54) (hs : s < 10) : f_X12_ownerOf μ (nI l) (nI s) but = some (oI (ownO μ S but l s)) := by
  have key := loopM (A := Unit) (fun n _ v => f_X12_ownerOf_L3 μ (nI l) (nI s) but n v) (fun m t _ => some (oI ((List.range' t m).find? (fun c => decide (μ.1 9 0 c = 1) && (decide (nI c ≠ but) && hasB μ S c l s))))) 8 ?_ ?_ 8 0 FU () (by omega) (FU_lt (by omega))
  · unfold ownO
    rw [List.range_eq_range']
    exact key
  · intro n' m t a ht ih
    have htc : t < 8 := by omega
    obtain ⟨hz, hlv⟩ := hm.2 t htc
    show f_X12_ownerOf_L3b μ (nI l) (nI s) but (f_X12_ownerOf_L3 μ (nI l) (nI s) but n') (nI t) = _
    have ih2 : f_X12_ownerOf_L3 μ (nI l) (nI s) but n' (nI (t + 1)) = _ := ih ()
    simp only [f_X12_ownerOf_L3b, if_pos (ltL 8 8 rfl htc (by decide)), chk, if_pos (inbL htc (show 8 < 2 ^ 31 by decide)), clL (show t < 2 ^ 31 by omega), nI_1, ih2, List.range'_succ, List.find?_cons]
    rcases hz with e | e
    · rw [if_pos e]
      simp [e]
    · obtain ⟨h1, h2, h3, h4⟩ := hlv e
      rw [if_neg (by rw [e]; decide)]
      by_cases hb : nI t = but
      · simp [hb]
      · rw [if_neg hb, hasSlot_eq ⟨h1, h2⟩ hm.1 htc hl hs h3 h4]
        simp only [Option.bind_some]
        cases hq : hasB μ S t l s
        · simp [bz, hq, e, hb]
        · simp [bz, hq, e, hb, oI]
  · intro n' a
    show f_X12_ownerOf_L3b μ (nI l) (nI s) but (f_X12_ownerOf_L3 μ (nI l) (nI s) but n') (nI 8) = _
    simp only [f_X12_ownerOf_L3b]
    rw [if_neg (show ¬ nI 8 < 8 from by decide)]
    rfl
theorem own_pred {μ : St} {S c l s : Nat} {but : Int32} : (decide (μ.1 9 0 c = 1) && (decide (nI c ≠ but) && hasB μ S c l s)) = true ↔ live μ c ∧ nI c ≠ but ∧ hasS μ S c l s := by
  rw [Bool.and_eq_true, Bool.and_eq_true, decide_eq_true_eq, decide_eq_true_eq, hasB_iff]
  rfl
theorem ownO_none {μ : St} {S l s : Nat} {but : Int32} (h : ∀ c, c < 8 → live μ c → nI c ≠ but → ¬ hasS μ S c l s) : ownO μ S but l s = none := by
  unfold ownO
  rw [List.find?_eq_none]
  intro c hc hq
  rw [own_pred] at hq
  exact h c (List.mem_range.mp hc) hq.1 hq.2.1 hq.2.2
theorem ownO_some {μ : St} {S l s c : Nat} {but : Int32} (hc : c < 8) (h1 : live μ c) (h2 : nI c ≠ but) (h3 : hasS μ S c l s) (hu : ∀ d, d < 8 → live μ d → hasS μ S d l s → d = c) : ownO μ S but l s = some c := by
  cases hq : ownO μ S but l s with
  | none =>
    unfold ownO at hq
    rw [List.find?_eq_none] at hq
    exact absurd (own_pred.mpr ⟨h1, h2, h3⟩) (hq c (List.mem_range.mpr hc))
  | some d =>
    have hp := List.find?_some hq
    have hm := List.mem_of_find?_eq_some hq
    rw [own_pred] at hp
    rw [hu d (List.mem_range.mp hm) hp.1 hp.2.2]
/-- the owners that the class keeps are those that the reference finds -/
theorem RelP.owner {W H S T k : Nat} {σ μ : St} (h : RelP W H S T k σ μ) (h0 : 0 < S) {l s : Nat} (hl : l < 54) (hs : s < S) : σ.1 16 0 (10 * l + s) = oI (ownO μ S (-1) l s) := by
  have h10 := h.1.S10
  rcases h.2.2.2.2.2.1 h0 l hl s (by omega) with ⟨e, hn⟩ | ⟨-, c, hc, e, h1, h2, hu⟩
  · rw [e, ownO_none (fun c hc hlv _ => hn hs c hc hlv)]
    rfl
  · rw [e, ownO_some hc h1 (nI_nm1 (by omega)) h2 hu]
    rfl
theorem ownerX_eq {σ : St} {l s : Nat} (hl : l < 54) (hs : s < 10) : f_X1_ownerOf σ (nI l) (nI s) = some (σ.1 16 0 (10 * l + s)) := by
  have e : (10 : Int32) * nI l + nI s = nI (10 * l + s) := by rw [show (10 : Int32) = nI 10 from rfl, nI_mul, nI_add]
  simp only [f_X1_ownerOf, isLN hl, Option.bind_some, show ¬ (1 : Int32) = 0 from by decide, if_false, if_pos (nI_pos' (show s < 2 ^ 31 by omega)), if_neg (nleL 10 10 rfl hs (by decide)), e, chk, if_pos (inbL (show 10 * l + s < 540 by omega) (by decide)), clL (show 10 * l + s < 2 ^ 31 by omega)]
/-- how many slots of a link are had -/
def hadN (σ : St) (S l : Nat) : Nat := ((List.range S).filter (fun s => decide (σ.1 16 0 (10 * l + s) ≠ -1))).length
theorem hadX {σ : St} {S l : Nat} (e : σ.1 1 0 1 = nI S) (hS : S ≤ 10) (hl : l < 54) : f_X1_slotsHad σ (nI l) = some (nI (hadN σ S l)) := by
  have key := loopM (A := Nat) (fun n b v => f_X1_slotsHad_L4 σ (nI l) n (nI b) v) (fun m t b => some (nI (b + ((List.range' t m).filter (fun s => decide (σ.1 16 0 (10 * l + s) ≠ -1))).length))) S ?_ ?_ S 0 FU 0 (by omega) (FU_lt (by omega))
  · unfold hadN
    rw [List.range_eq_range']
    rw [Nat.zero_add] at key
    exact key
  · intro n' m t a ht ih
    show f_X1_slotsHad_L4b σ (nI l) (f_X1_slotsHad_L4 σ (nI l) n') (nI a) (nI t) = _
    have ih2 : ∀ b, f_X1_slotsHad_L4 σ (nI l) n' (nI b) (nI (t + 1)) = _ := ih
    simp only [f_X1_slotsHad_L4b, e, if_pos (nI_lt (show t < S by omega) (show S < 2 ^ 31 by omega)), ownerX_eq hl (show t < 10 by omega), Option.bind_some, nI_1, ih2, List.range'_succ]
    by_cases q : σ.1 16 0 (10 * l + t) = -1
    · simp [q]
    · simp [q]
      congr 1
      omega
  · intro n' a
    show f_X1_slotsHad_L4b σ (nI l) (f_X1_slotsHad_L4 σ (nI l) n') (nI a) (nI S) = _
    simp only [f_X1_slotsHad_L4b, e, if_neg (nI_nlt (Nat.le_refl S) (show S < 2 ^ 31 by omega))]
    simp
theorem hadM {W H S T k : Nat} {σ μ : St} (h : RelP W H S T k σ μ) {l : Nat} (hl : l < 54) : f_X12_hadOf μ (nI l) = some (nI (hadN σ S l)) := by
  have hS := h.1.S10
  have e := h.mok.1
  have key := loopM (A := Nat) (fun n b v => f_X12_hadOf_L4 μ (nI l) n (nI b) v) (fun m t b => some (nI (b + ((List.range' t m).filter (fun s => decide (σ.1 16 0 (10 * l + s) ≠ -1))).length))) S ?_ ?_ S 0 FU 0 (by omega) (FU_lt (by omega))
  · unfold hadN
    rw [List.range_eq_range']
    rw [Nat.zero_add] at key
    exact key
  · intro n' m t a ht ih
    show f_X12_hadOf_L4b μ (nI l) (f_X12_hadOf_L4 μ (nI l) n') (nI a) (nI t) = _
    have ih2 : ∀ b, f_X12_hadOf_L4 μ (nI l) n' (nI b) (nI (t + 1)) = _ := ih
    simp only [f_X12_hadOf_L4b, e, if_pos (nI_lt (show t < S by omega) (show S < 2 ^ 31 by omega)), ownerOf_eq h.mok hl (show t < 10 by omega), Option.bind_some, ← h.owner (show 0 < S by omega) hl (show t < S by omega), nI_1, Int32.add_zero, ih2, List.range'_succ]
    by_cases q : σ.1 16 0 (10 * l + t) = -1
    · simp [q]
    · simp [q]
      congr 1
      omega
  · intro n' a
    show f_X12_hadOf_L4b μ (nI l) (f_X12_hadOf_L4 μ (nI l) n') (nI a) (nI S) = _
    simp only [f_X12_hadOf_L4b, e, if_neg (nI_nlt (Nat.le_refl S) (show S < 2 ^ 31 by omega))]
    simp
