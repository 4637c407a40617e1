/-! the evenest starts -/
theorem nI_and (a b : Nat) : nI a &&& nI b = nI (a &&& b) := by
  apply Int32.toBitVec_inj.mp
  unfold nI
  rw [Int32.toBitVec_and, Int32.toBitVec_ofNat', Int32.toBitVec_ofNat', Int32.toBitVec_ofNat', BitVec.ofNat_and]
def spX (o : Option (Nat × Nat)) : Int32 := o.elim 0 (fun p => nI p.1)
def sgX (S : Nat) (o : Option (Nat × Nat)) : Int32 := o.elim (nI (S + 1)) (fun p => nI p.2)
def spM (o : Option (Nat × Nat)) : Int32 := o.elim (-1) (fun p => nI p.1)
def sgM (o : Option (Nat × Nat)) : Int32 := o.elim 268435456 (fun p => nI p.2)
def okS (fr n S v : Nat) (o : Option (Nat × Nat)) : Prop := ∀ p, o = some p → 1 ≤ p.1 ∧ p.1 < v ∧ 1 ≤ p.2 ∧ p.2 ≤ S ∧ p.1 &&& fr = p.1 ∧ nb p.1 = n
/-- one turn, the same on both sides: keep, or take v -/
theorem spread_step {μ : St} {S fr n v : Nat} {o : Option (Nat × Nat)} (hS : 4 ≤ S ∧ S ≤ 10) (eS : μ.1 0 0 2 = nI S) (hfr : fr < 2 ^ S) (hn : n < 100) (hv1 : 1 ≤ v) (hv : v < 2 ^ S) (ho : okS fr n S v o) : ∃ o', okS fr n S (v + 1) o' ∧ (fr < v → o' = o) ∧
    (∀ K, v ≤ fr → f_X7_evenest_L10b (nI fr) (nI n) (nI S) K (spX o) (sgX S o) (nI v) = K (spX o') (sgX S o') (nI (v + 1))) ∧
    (∀ K, f_X12_spreadStarts_L9b μ (nI fr) (nI n) K (spM o) (sgM o) (nI v) = K (spM o') (sgM o') (nI (v + 1))) := by
  have p2 : 2 ^ S ≤ 1024 := Nat.pow_le_pow_right (n := 2) (by decide) hS.2
  have hv2 : v < 1024 := by omega
  have hfr2 : fr < 1024 := by omega
  have gg := gap_eq S (by omega) v hv2 ⟨hS.1, hv, by omega⟩
  have gx := gapX_eq (st := v) (S := S) hv2 hS.2
  have gm := gapM_eq (μ := μ) (st := v) (S := S) eS hv2 ⟨by omega, hS.2⟩
  rw [← gg.1] at gm
  have nbl : nb v < 100 := by
    unfold nb
    have : ∀ j, popc v j ≤ j := by
      intro j
      induction j with
      | zero => exact Nat.le_refl _
      | succ j ih => show popc v j + (if v.testBit j then 1 else 0) ≤ j + 1; split <;> omega
    have := this 10
    omega
  have hsh : nI v < (1 <<< (nI S &&& 31)) := by
    have : ∀ s, s < 11 → (1 : Int32) <<< (nI s &&& 31) = nI (2 ^ s) := by decide
    rw [this S (by omega)]
    exact nI_lt hv (by omega)
  have okn : okS fr n S (v + 1) o := fun p hp => by have := ho p hp; exact ⟨this.1, by omega, this.2.2.1, this.2.2.2⟩
  have okv : v &&& fr = v → nb v = n → okS fr n S (v + 1) (some (v, gapXn v S)) := fun y1 y2 p hp => by cases hp; exact ⟨hv1, Nat.lt_succ_self v, gg.2.1, gg.2.2, y1, y2⟩
  have hand : nI v &&& nI fr = nI (v &&& fr) := nI_and v fr
  have hlt : v &&& fr ≤ v := Nat.and_le_left
  by_cases q1 : v &&& fr = v
  · have hle : v ≤ fr := by
      have : v &&& fr ≤ fr := Nat.and_le_right
      omega
    by_cases q2 : nb v = n
    · have hx : ∀ K, v ≤ fr → f_X7_evenest_L10b (nI fr) (nI n) (nI S) K (spX o) (sgX S o) (nI v) = if sgX S o ≤ nI (gapXn v S) then (if nI (gapXn v S) = sgX S o then ((f_X7_comesAhead (nI v) (spX o)).bind fun r3 => if r3 = 0 then K (spX o) (sgX S o) (nI (v + 1)) else K (nI v) (nI (gapXn v S)) (nI (v + 1))) else K (spX o) (sgX S o) (nI (v + 1))) else K (nI v) (nI (gapXn v S)) (nI (v + 1)) := by
        intro K hvf
        unfold f_X7_evenest_L10b
        rw [if_pos (nI_le hvf (by omega)), hand, q1, if_pos rfl, bitc_eq v hv2, Option.bind_some, q2, if_pos rfl, gx, Option.bind_some, nI_1]
      have hm : ∀ K, f_X12_spreadStarts_L9b μ (nI fr) (nI n) K (spM o) (sgM o) (nI v) = if sgM o ≤ nI (gapXn v S) then (if nI (gapXn v S) = sgM o then ((f_X12_isLesser (nI v) (spM o)).bind fun r3 => if r3 = 0 then K (spM o) (sgM o) (nI (v + 1)) else K (nI v) (nI (gapXn v S)) (nI (v + 1))) else K (spM o) (sgM o) (nI (v + 1))) else K (nI v) (nI (gapXn v S)) (nI (v + 1)) := by
        intro K
        unfold f_X12_spreadStarts_L9b
        rw [eS, if_pos hsh, hand, q1, if_pos rfl, size_eq hv2, Option.bind_some, q2, if_pos rfl, gm, Option.bind_some, nI_1]
      rcases o with _ | ⟨b, g0⟩
      · refine ⟨some (v, gapXn v S), okv q1 q2, fun z => by omega, fun K hvf => ?_, fun K => ?_⟩
        · rw [hx K hvf, if_neg (show ¬ sgX S none ≤ nI (gapXn v S) from nleL _ (S + 1) rfl (by omega) (by omega))]
          rfl
        · rw [hm K, if_neg (show ¬ sgM none ≤ nI (gapXn v S) from nleL _ 268435456 rfl (by omega) (by decide))]
          rfl
      · obtain ⟨b1, b2, b3, b4, -⟩ := ho (b, g0) rfl
        have b1' : 1 ≤ b := b1
        have b2' : b < v := b2
        have b3' : 1 ≤ g0 := b3
        have b4' : g0 ≤ S := b4
        by_cases y1 : gapXn v S < g0
        · have nle : ¬ nI g0 ≤ nI (gapXn v S) := nleL _ g0 rfl y1 (by omega)
          refine ⟨some (v, gapXn v S), okv q1 q2, fun z => by omega, fun K hvf => ?_, fun K => ?_⟩
          · rw [hx K hvf, if_neg (show ¬ sgX S (some (b, g0)) ≤ _ from nle)]
            rfl
          · rw [hm K, if_neg (show ¬ sgM (some (b, g0)) ≤ _ from nle)]
            rfl
        · have le : nI g0 ≤ nI (gapXn v S) := nI_le (by omega) (by omega)
          by_cases y2 : gapXn v S = g0
          · have ca := ahead_eq hv2 (show b < 1024 by omega) (show v ≠ b by omega)
            have cl := lesser_eq hv2 (show b < 1024 by omega) (show v ≠ b by omega)
            have eq : nI (gapXn v S) = nI g0 := by rw [y2]
            cases hb : v.testBit (lo (v ^^^ b))
            · rw [hb] at ca cl
              refine ⟨some (b, g0), okn, fun z => rfl, fun K hvf => ?_, fun K => ?_⟩
              · rw [hx K hvf, if_pos (show sgX S (some (b, g0)) ≤ _ from le), if_pos (show _ = sgX S (some (b, g0)) from eq), show f_X7_comesAhead (nI v) (spX (some (b, g0))) = _ from ca, Option.bind_some, if_pos (show bz false = 0 from rfl)]
              · rw [hm K, if_pos (show sgM (some (b, g0)) ≤ _ from le), if_pos (show _ = sgM (some (b, g0)) from eq), show f_X12_isLesser (nI v) (spM (some (b, g0))) = _ from cl, Option.bind_some, if_pos (show bz false = 0 from rfl)]
            · rw [hb] at ca cl
              refine ⟨some (v, gapXn v S), okv q1 q2, fun z => by omega, fun K hvf => ?_, fun K => ?_⟩
              · rw [hx K hvf, if_pos (show sgX S (some (b, g0)) ≤ _ from le), if_pos (show _ = sgX S (some (b, g0)) from eq), show f_X7_comesAhead (nI v) (spX (some (b, g0))) = _ from ca, Option.bind_some, if_neg (show ¬ bz true = 0 by decide)]
                rfl
              · rw [hm K, if_pos (show sgM (some (b, g0)) ≤ _ from le), if_pos (show _ = sgM (some (b, g0)) from eq), show f_X12_isLesser (nI v) (spM (some (b, g0))) = _ from cl, Option.bind_some, if_neg (show ¬ bz true = 0 by decide)]
                rfl
          · have ne : ¬ nI (gapXn v S) = nI g0 := fun z => y2 (nI_inj (by omega) (by omega) z)
            refine ⟨some (b, g0), okn, fun z => rfl, fun K hvf => ?_, fun K => ?_⟩
            · rw [hx K hvf, if_pos (show sgX S (some (b, g0)) ≤ _ from le), if_neg (show ¬ _ = sgX S (some (b, g0)) from ne)]
            · rw [hm K, if_pos (show sgM (some (b, g0)) ≤ _ from le), if_neg (show ¬ _ = sgM (some (b, g0)) from ne)]
    · refine ⟨o, okn, fun _ => rfl, fun K hvf => ?_, fun K => ?_⟩
      · unfold f_X7_evenest_L10b
        rw [if_pos (nI_le hvf (by omega)), hand, q1, if_pos rfl, bitc_eq v hv2, Option.bind_some, if_neg (fun z => q2 (nI_inj (by omega) (by omega) z)), nI_1]
      · unfold f_X12_spreadStarts_L9b
        rw [eS, if_pos hsh, hand, q1, if_pos rfl, size_eq hv2, Option.bind_some, if_neg (fun z => q2 (nI_inj (by omega) (by omega) z)), nI_1]
  · have hne : ¬ nI (v &&& fr) = nI v := fun z => q1 (nI_inj (by omega) (by omega) z)
    refine ⟨o, okn, fun _ => rfl, fun K hvf => ?_, fun K => ?_⟩
    · unfold f_X7_evenest_L10b
      rw [if_pos (nI_le hvf (by omega)), hand, if_neg hne, nI_1]
    · unfold f_X12_spreadStarts_L9b
      rw [eS, if_pos hsh, hand, if_neg hne, nI_1]
