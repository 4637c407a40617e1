/-! all circuits send -/
theorem fmod_eq {a b : Nat} (ha : a < 2 ^ 31) (hb : b < 2 ^ 31) : fmodI (nI a) (nI b) = nI (a % b) := by
  have hx : a ^^^ b < 2 ^ 31 := Nat.xor_lt_two_pow ha hb
  unfold fmodI
  rw [nI_xor, if_pos (nI_pos' hx), nI_rem ha hb]
theorem slotNow_eq {σ : St} {S T : Nat} (eS : σ.1 1 0 1 = nI S) (eT : σ.1 1 0 2 = nI T) (hS : 0 < S ∧ S ≤ 10) (hT : T < 2 ^ 31) : f_X1_slotNow σ = some (nI (T % S)) := by
  unfold f_X1_slotNow chk
  rw [eS, eT, if_neg (nltL 1 1 rfl hS.1 (by omega)), if_pos (nI_ne0 hS.1 (by omega)), fmod_eq hT (by omega)]
theorem tells_eq {o : Nat} (ho : o < 2 ^ 31) : ∃ y, y ≤ 3 ∧ y ≤ o ∧ (y = 0 ↔ o = 0) ∧ tells (nI o) = nI y := by
  unfold tells
  by_cases h : 3 < o
  · exact ⟨3, by omega, by omega, by omega, if_pos (nI_lt (a := 3) h (by omega))⟩
  · exact ⟨o, by omega, by omega, by omega, if_neg (nI_nlt (a := 3) (by omega) (by decide))⟩
theorem find_m1 (σ : St) : f_X3_find σ (-1) = some none := by
  unfold f_X3_find
  rw [if_neg (by decide)]
theorem send_both {W H S T k c : Nat} {σ μ : St} (h : RelM c W H S T k σ μ) (hk : k ≤ 513) (hc : c < 8) (hl : live μ c) (hbit : (stN μ c).testBit (T % S) = true) :
    ∃ σ2 μ2 r, f_X3_find σ (σ.1 2 c 7) = some r ∧ (∀ j, r = some j → j < 8) ∧ f_X2_send σ c r = some σ2 ∧ f_X12_leave μ (nI c) = some μ2 ∧ RelM (c + 1) W H S T k σ2 μ2 ∧ μ2.1 0 0 50 = μ.1 0 0 50 := by
  obtain ⟨n, hn, en, -⟩ := h.2.2.2.2.2.2.1
  obtain ⟨q, o, hS⟩ := h.of_live hc hl
  have e7 : σ.1 2 c 7 = μ.1 23 0 c := q.2.2.2.2.2.2.2.2.2.2.2.2.1
  have e8 : σ.1 2 c 8 = μ.1 18 0 c := q.2.2.2.2.2.2.2.1
  have e11 : σ.1 2 c 11 = μ.1 19 0 c := q.2.2.2.2.2.2.2.2.1
  have x10 : ∀ e, e < 8 → live μ e → σ.1 2 e 10 = μ.1 21 0 e := fun e he hle => (h.of_live he hle).1.2.2.2.2.2.2.2.2.2.2.1
  have b21 : ∀ e, e < 8 → live μ e → bd (μ.1 21 0 e) 0 (99 * k) := fun e he hle => (h.of_live he hle).2.1.2.2.2.2.2.2.2.2.1
  have b18 : bd (μ.1 18 0 c) 0 99 := o.2.2.2.2.2.2.2.1
  have eT : μ.1 0 0 3 = nI T := h.2.2.2.1.2.2.2.2.2.2.2.1
  have bq : 0 < μ.1 18 0 c → bd (μ.1 18 0 c - 1) 0 99 := by
    intro hq
    obtain ⟨qn, -, q2, q3⟩ := b18
    rw [q3] at hq ⊢
    have : 0 < qn := by
      rcases Nat.eq_zero_or_pos qn with z | z
      · rw [z] at hq; exact absurd hq (by decide)
      · exact z
    exact ⟨qn - 1, by omega, by omega, nI_sub (b := 1) (by omega)⟩
  by_cases hG : 0 < μ.1 18 0 c ∧ 0 < μ.1 19 0 c
  · rcases o.2.2.2.2.2.2.2.2.2.2.2 with hb | ⟨b, hb8, hbc, hb, lb, -⟩
    · have sx := sendX (σ := σ) (c := c) (b := none) (fun j z => by cases z)
      have lx := leaveA hc (show n < 96 by omega) en hG.1 hG.2 hb
      dsimp only at sx
      rw [e8, e11] at sx
      rw [if_pos hG] at sx
      refine ⟨_, _, none, by rw [e7, hb]; exact find_m1 σ, fun j z => (by cases z), sx, lx, ?_, ?_⟩
      · rw [eT]
        refine send_rel (y := 0) (g := 1) h hk hc hl en (by omega) (fun a a2 a18 => by rw [si_k a18, si_k a2, si_k a2]) rfl (fun e j j10 hj => ?_) (by simp (decide := true) only [si_k, si_j, si_eq]) (by simp (decide := true) only [si_k, si_eq]) (fun e he hle => by rw [si_k (by decide), si_j (by decide), si_j (by decide), si_k (by decide), si_k (by decide)]; exact x10 e he hle) (fun e p hep => ?_) (by rw [si_eq]; rfl) (fun a a18 a19 a21 => by rw [si_k a19, si_k a18]) (fun e ec => ⟨by rw [si_k (by decide), si_j ec], by rw [si_j ec, si_k (by decide)]⟩) (by rw [si_k (by decide), si_eq]; exact bq hG.1) (fun e he hle => by rw [si_k (by decide), si_k (by decide)]; exact b21 e he hle) (by omega) (by omega) (Or.inl rfl) hbit
        · rw [si_k (by decide), si_ne (by omega), si_ne (by omega)]
        · rw [si_ne (by omega), si_k (by decide), si_k (by decide)]
      · rw [addL_0 (by decide), si_k (by decide), si_k (by decide)]
    · obtain ⟨on, -, o2, eo⟩ := b21 b hb8 lb
      obtain ⟨y, y3, yo, -, ey⟩ := tells_eq (o := on) (by omega)
      have sx := sendX (σ := σ) (c := c) (b := some b) (fun j z => by injection z with z; rw [← z]; exact ⟨hb8, hbc⟩)
      obtain ⟨μ1, l1, l2, l3, l4, l5, l6, l7⟩ := leaveB hc hb8 (show n < 96 by omega) en hb (by rw [eo]; exact nI_pos' (by omega)) hG.1 hG.2
      dsimp only at sx
      rw [e8, e11, x10 b hb8 lb] at sx
      rw [if_pos hG] at sx
      rw [eo, ey] at sx l1 l7
      rw [nI_sub yo] at sx l7
      refine ⟨_, _, some b, ?_, fun j z => (by injection z with z; rw [← z]; exact hb8), sx, l1, ?_, ?_⟩
      · rw [e7, hb, h.find_n hb8, if_neg (by rw [show μ.1 9 0 b = 1 from lb]; decide)]
      · rw [eT]
        refine send_rel (y := y) (g := 1) h hk hc hl en (by omega) (fun a a2 a18 => by rw [si_k a18, si_k a2, si_k a2, si_k a2]) rfl (fun e j j10 hj => ?_) ?_ ?_ (fun e he hle => ?_) (fun e p hep => ?_) (by rw [si_eq]; rfl) l2 (fun e ec => ⟨l3 18 e ec (by decide), l3 19 e ec (by decide)⟩) (by rw [l5]; exact bq hG.1) (fun e he hle => ?_) (by omega) y3 (Or.inr (by rw [hb]; exact nI_nm1 (by omega))) hbit
        · rw [si_k (by decide), si_j j10, si_ne (by omega), si_ne (by omega)]
        · rw [si_k (by decide), si_j (by decide), si_j (by decide), si_eq, l5]
        · rw [si_k (by decide), si_j (by decide), si_eq, l6]
        · rw [si_k (by decide)]
          by_cases eb : e = b
          · rw [eb, si_eq, l7]
          · rw [si_i eb, si_j (by decide), si_j (by decide), l4 e eb]
            exact x10 e he hle
        · rw [si_ne (by omega), si_k (by decide), si_k (by decide), si_k (by decide)]
        · by_cases eb : e = b
          · rw [eb, l7]; exact ⟨on - y, by omega, by omega, rfl⟩
          · rw [l4 e eb]; exact b21 e he hle
      · rw [addL_0 (by decide), l2 0 (by decide) (by decide) (by decide)]
  · rcases o.2.2.2.2.2.2.2.2.2.2.2 with hb | ⟨b, hb8, hbc, hb, lb, -⟩
    · have sx := sendX (σ := σ) (c := c) (b := none) (fun j z => by cases z)
      have lx := leaveN hc hG hb
      dsimp only at sx
      rw [e8, e11] at sx
      rw [if_neg hG] at sx
      exact ⟨_, _, none, by rw [e7, hb]; exact find_m1 σ, fun j z => (by cases z), sx, lx, h.up, rfl⟩
    · obtain ⟨on, -, o2, eo⟩ := b21 b hb8 lb
      obtain ⟨y, y3, yo, y0, ey⟩ := tells_eq (o := on) (by omega)
      have sx := sendX (σ := σ) (c := c) (b := some b) (fun j z => by injection z with z; rw [← z]; exact ⟨hb8, hbc⟩)
      have lx := leaveE hc hb8 (show n < 96 by omega) en hb (by rw [eo]; exact nI_pos' (by omega)) hG
      have fx : f_X3_find σ (σ.1 2 c 7) = some (some b) := by rw [e7, hb, h.find_n hb8, if_neg (by rw [show μ.1 9 0 b = 1 from lb]; decide)]
      dsimp only at sx
      rw [e8, e11, x10 b hb8 lb] at sx
      rw [if_neg hG, eo, ey] at sx
      rw [eo, ey] at lx
      rcases lx with ⟨z, lx⟩ | ⟨z, lx⟩
      · have o0 : on = 0 := nI_inj (b := 0) (by omega) (by decide) z
        rw [if_pos (by rw [y0.mpr o0]; rfl)] at sx
        exact ⟨_, _, some b, fx, fun j z => (by injection z with z; rw [← z]; exact hb8), sx, lx, h.up, rfl⟩
      · have o0 : on ≠ 0 := fun w => z (by rw [w]; rfl)
        have yn : y ≠ 0 := fun w => o0 (y0.mp w)
        rw [if_neg (nI_ne0 (by omega) (by omega)), nI_sub yo, Int32.sub_zero, Int32.sub_zero] at sx
        rw [nI_sub yo] at lx
        refine ⟨_, _, some b, fx, fun j z => (by injection z with z; rw [← z]; exact hb8), sx, lx, ?_, ?_⟩
        · rw [eT]
          refine send_rel (y := y) (g := 0) h hk hc hl en (by omega) (fun a a2 a18 => by rw [si_k a18, si_k a2, si_k a2, si_k a2]) rfl (fun e j j10 hj => ?_) ?_ ?_ (fun e he hle => ?_) (fun e p hep => ?_) (by rw [si_eq]; rfl) (fun a a18 a19 a21 => si_k a21) (fun e ec => ⟨by rw [si_k (by decide)], by rw [si_k (by decide)]⟩) (by rw [si_k (by decide)]; exact b18) (fun e he hle => ?_) (by omega) y3 (Or.inr (by rw [hb]; exact nI_nm1 (by omega))) hbit
          · rw [si_k (by decide), si_j j10, si_ne (by omega), si_ne (by omega)]
          · rw [si_k (by decide), si_j (by decide), si_j (by decide), si_eq, si_k (by decide)]
          · rw [si_k (by decide), si_j (by decide), si_eq, si_k (by decide)]
          · rw [si_k (by decide)]
            by_cases eb : e = b
            · rw [eb, si_eq, si_eq]
            · rw [si_i eb, si_j (by decide), si_j (by decide), si_j eb]
              exact x10 e he hle
          · rw [si_ne (by omega), si_k (by decide), si_k (by decide), si_k (by decide)]
          · by_cases eb : e = b
            · rw [eb, si_eq]; exact ⟨on - y, by omega, by omega, rfl⟩
            · rw [si_j eb]; exact b21 e he hle
        · rw [addL_0 (by decide), si_k (by decide)]
theorem sends_both {W H S T k : Nat} {σ μ : St} (h : RelP W H S T k σ μ) (hS : 0 < S) (hk : k ≤ 513) : ∃ σ1 μ1, f_X10_sendLetters σ = some σ1 ∧ f_X12_cycle μ = f_X12_cycle_L51 FU μ1 0 ∧ RelM 8 W H S T k σ1 μ1 ∧ μ1.1 0 0 50 = μ.1 0 0 50 := by
  have h10 := h.1.S10
  have hT : T ≤ 40 * k := h.2.1
  have hm : T % S < S := Nat.mod_lt _ hS
  have go : ∀ m t σ1 μ1 fx fm, t + m = 8 → m < fx → m < fm → RelM t W H S T k σ1 μ1 → ∃ σ2 μ2, f_X10_sendLetters_L10 (nI (T % S)) fx σ1 (nI t) = some σ2 ∧ f_X12_cycle_L2 fm μ1 (nI t) = f_X12_cycle_L51 FU μ2 0 ∧ RelM 8 W H S T k σ2 μ2 ∧ μ2.1 0 0 50 = μ1.1 0 0 50 := by
    intro m
    induction m with
    | zero =>
      intro t σ1 μ1 fx fm h1 h2 h3 hr
      obtain ⟨fx, rfl⟩ : ∃ j, fx = j + 1 := ⟨fx - 1, by omega⟩
      obtain ⟨fm, rfl⟩ : ∃ j, fm = j + 1 := ⟨fm - 1, by omega⟩
      have e : t = 8 := by omega
      subst e
      refine ⟨σ1, μ1, ?_, ?_, hr, rfl⟩
      · show f_X10_sendLetters_L10b (nI (T % S)) (f_X10_sendLetters_L10 (nI (T % S)) fx) σ1 (nI 8) = _
        unfold f_X10_sendLetters_L10b
        rw [if_neg (show ¬ nI 8 < 8 by decide)]
      · show f_X12_cycle_L2b (f_X12_cycle_L2 fm) μ1 (nI 8) = _
        unfold f_X12_cycle_L2b
        rw [if_neg (show ¬ nI 8 < 8 by decide)]
    | succ m ih =>
      intro t σ1 μ1 fx fm h1 h2 h3 hr
      obtain ⟨fx, rfl⟩ : ∃ j, fx = j + 1 := ⟨fx - 1, by omega⟩
      obtain ⟨fm, rfl⟩ : ∃ j, fm = j + 1 := ⟨fm - 1, by omega⟩
      have ht : t < 8 := by omega
      have l8 : nI t < 8 := ltL 8 8 rfl ht (by decide)
      have i1 : inb (nI t) 8 := inbL ht (by decide)
      have c1 : Int32.toNatClampNeg (nI t) = t := clL (by omega)
      have hg := hr.2.2.2.1
      have fn := hr.find_n ht
      have i2 := fun σ' μ' hr' => ih (t + 1) σ' μ' fx fm (by omega) (by omega) (by omega) hr'
      have sX : f_X10_sendLetters_L10 (nI (T % S)) (fx + 1) σ1 (nI t) = f_X10_sendLetters_L10b (nI (T % S)) (f_X10_sendLetters_L10 (nI (T % S)) fx) σ1 (nI t) := rfl
      have sM : f_X12_cycle_L2 (fm + 1) μ1 (nI t) = f_X12_cycle_L2b (f_X12_cycle_L2 fm) μ1 (nI t) := rfl
      rw [sX, sM]
      generalize f_X10_sendLetters_L10 (nI (T % S)) fx = KX at i2 ⊢
      generalize f_X12_cycle_L2 fm = KM at i2 ⊢
      unfold f_X10_sendLetters_L10b f_X12_cycle_L2b chk
      rw [if_pos l8, if_pos l8, if_pos i1, c1, fn, Option.bind_some, nI_1]
      rcases (hr.2.2.2.2.1 t ht).2.1 with e9 | e9
      · rw [if_pos e9, if_pos e9, onR_n]
        obtain ⟨σ2, μ2, a1, a2, a3, a4⟩ := i2 σ1 μ1 hr.up
        exact ⟨σ2, μ2, a1, a2, a3, a4⟩
      · have hl : live μ1 t := e9
        obtain ⟨st, s1, s2, s3, s4, s5, s6⟩ := hr.starts ht hl
        rw [if_neg (show ¬ μ1.1 9 0 t = 0 by rw [e9]; decide), if_neg (show ¬ μ1.1 9 0 t = 0 by rw [e9]; decide), onR_s ht, if_pos i1, hg.2.2.2.2.2.2.1, hg.2.2.2.2.2.2.2.1, if_pos (nI_ne0 hS (by omega)), s2, nI_rem (by omega) (by omega), isBit_eq s1 (by omega), hasStart_eq s3 s1 (by omega), Option.bind_some, Option.bind_some]
        cases hb : st.testBit (T % S)
        · rw [if_pos (show bz false = 0 from rfl), if_pos (show bz false = 0 from rfl)]
          obtain ⟨σ2, μ2, a1, a2, a3, a4⟩ := i2 σ1 μ1 hr.up
          exact ⟨σ2, μ2, a1, a2, a3, a4⟩
        · obtain ⟨σ2, μ2, r, b1, b2, b3, b4, b5, b6⟩ := send_both hr hk ht hl (by rw [s4]; exact hb)
          rw [if_neg (show ¬ bz true = 0 by decide), if_neg (show ¬ bz true = 0 by decide), b1, Option.bind_some, b4, Option.bind_some]
          obtain ⟨σ3, μ3, a1, a2, a3, a4⟩ := i2 σ2 μ2 b5
          refine ⟨σ3, μ3, ?_, a2, a3, a4.trans b6⟩
          cases r with
          | none => rw [onR_n, b3, Option.bind_some]; exact a1
          | some j => rw [onR_s (b2 j rfl), b3, Option.bind_some]; exact a1
  have hg := h.2.2.2.1
  obtain ⟨σ1, μ1, a1, a2, a3, a4⟩ := go 8 0 σ μ FU FU (by omega) (FU_lt (by omega)) (FU_lt (by omega)) h.mid
  refine ⟨σ1, μ1, ?_, a2, a3, a4⟩
  unfold f_X10_sendLetters
  rw [slotNow_eq hg.2.2.1 hg.2.2.2.1 ⟨hS, h10⟩ (by omega), Option.bind_some]
  exact a1
