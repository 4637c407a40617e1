/-! open -/
theorem RelP.scr {W H S T k : Nat} {σ μ σ' μ' : St} (h : RelP W H S T k σ μ) (x : XT σ' σ) (x20 : ∀ i, i < 9 → σ'.1 20 0 i = 0) (m : Scr μ' μ) : RelP W H S T k σ' μ' := by
  obtain ⟨g1, g2, g3, g4, g5, g6, g7, g8, g9, g10⟩ := h
  have xk : ∀ a, a ≠ 6 → a ≠ 19 → a ≠ 20 → σ'.1 a = σ.1 a := x.1
  have m1 := m.MA
  refine ⟨g1, g2, g3.cg (by rw [xk 5 (by decide) (by decide) (by decide)]) (xk 12 (by decide) (by decide) (by decide)) (m.2 7 (by decide)) (m1 8 (by omega) (by omega)), g4.cg (by rw [xk 4 (by decide) (by decide) (by decide)]) (xk 1 (by decide) (by decide) (by decide)) (by rw [xk 11 (by decide) (by decide) (by decide)]) (xk 14 (by decide) (by decide) (by decide)) (xk 15 (by decide) (by decide) (by decide)) (fun j hj => m.2 j (by omega)) (m1.w (by omega) (by omega)), g5.cg (xk 2 (by decide) (by decide) (by decide)) (xk 17 (by decide) (by decide) (by decide)) (xk 18 (by decide) (by decide) (by decide)) (m1.w (by omega) (by omega)), g6.cg (xk 16 (by decide) (by decide) (by decide)) (m1.w (by omega) (by omega)), g7.cg (xk 18 (by decide) (by decide) (by decide)) (m1.w (by omega) (by omega)) (m1 23 (by omega) (by omega)) (m1.w (by omega) (by omega)) (m.2 25 (by decide)), g8.cg (by rw [xk 8 (by decide) (by decide) (by decide)]) (xk 7 (by decide) (by decide) (by decide)) (by rw [x.2]) (m1.w (by omega) (by omega)) (m.2 30 (by decide)), g9.cg (xk 0 (by decide) (by decide) (by decide)) (m1.w (by omega) (by omega)), ?_, x20⟩
  rw [xk 10 (by decide) (by decide) (by decide), m.2 4 (by decide)]
  exact g10.1
theorem ownO_no {μ : St} {S l s : Nat} {but : Int32} (h : (ownO μ S but l s).isNone = true) : ∀ e, e < 8 → live μ e → nI e ≠ but → ¬ hasS μ S e l s := by
  intro e he hl hb hs
  rw [Option.isNone_iff_eq_none] at h
  unfold ownO at h
  rw [List.find?_eq_none] at h
  exact absurd (own_pred.mpr ⟨hl, hb, hs⟩) (h e (List.mem_range.mpr he))
/-- what is so of a way that was found -/
theorem way_facts {W H S : Nat} {br : Nat → Int32} {fre : Nat → Nat → Bool} {kd a b n : Nat} {σ' μ' : St} {d x : Nat} {ls : List Nat} (hw : okWHS W H S) (hS : 4 ≤ S ∧ S ≤ 10) (ha : a < W * H) (hb : b < W * H) (hn : 1 ≤ n ∧ n ≤ 4) (hk : kd ≤ 4) (h : FW W H S br fre kd a b n σ' μ' d x ls) :
    ls.length = d ∧ x < 2 ^ S ∧ popc x S = n ∧ (∀ p, p < d + 2 → rtL a b ls p < 54 ∧ endV W H (rtL a b ls p) ≠ -2) ∧ (∀ p t, p < d + 2 → t < S → x.testBit t = true → fre (rtL a b ls p) ((t + p) % S) = true) ∧ ∀ p, p < d + 2 → μ'.1 46 0 p = nI (rtL a b ls p) := by
  have h9 := hw.WH.2.2
  obtain ⟨d1, d6, hx0, hx, hr, -, -, -, -, e0, ei, e1⟩ := h
  obtain ⟨hls, ex, hl⟩ := res_some hw d a _ _ x ls ha hr
  have hlt : facc fre S (fset fre S (6 * a) 0) 1 (ls ++ [6 * b + 1]) < 2 ^ S := Nat.lt_of_le_of_lt (facc_le _ _ _) fset_lt
  obtain ⟨c1, -, -, c4⟩ := chN_eq (μ := ((fun _ _ _ => nI S), σ'.2)) (S := S) (kd := kd) (n := n) hS rfl hlt hn hk
  have ex' : x = chN kd n S (facc fre S (fset fre S (6 * a) 0) 1 (ls ++ [6 * b + 1])) := ex
  rw [← ex'] at c1 c4
  obtain ⟨c5, c6⟩ := c4 hx0
  refine ⟨hls, c1, ?_, fun p hp => ?_, fun p t hp ht hb' => ?_, fun p hp => ?_⟩
  · rw [popc_S S (by omega) x hx c1]
    exact c6
  · cases p with
    | zero => exact ⟨show 6 * a < 54 by omega, endV_io (l := 6 * a) (by omega) (by omega) (by omega)⟩
    | succ p =>
      by_cases q : p < d
      · rw [rtL_s hls q]; exact hl p q
      · have : p = d := by omega
        subst this
        rw [rtL_e hls]
        exact ⟨by omega, endV_io (l := 6 * b + 1) (by omega) (by omega) (by omega)⟩
  · have hF : (facc fre S (fset fre S (6 * a) 0) 1 (ls ++ [6 * b + 1])).testBit t = true := by
      rw [← c5, Nat.testBit_and, Bool.and_eq_true] at hb'
      exact hb'.2
    rw [facc_bit ht] at hF
    unfold fset at hF
    rw [bitsOf_bit, decide_eq_true ht, Bool.true_and] at hF
    have hA : allF fre S t 0 ((6 * a) :: (ls ++ [6 * b + 1])) = true := hF
    rw [← allF_range, List.all_eq_true] at hA
    have := hA p (List.mem_range.mpr (by simp [hls]; omega))
    rw [Nat.zero_add] at this
    exact this
  · cases p with
    | zero => rw [e0, show (6 : Int32) = nI 6 from rfl, nI_mul]; rfl
    | succ p =>
      by_cases q : p < d
      · rw [rtL_s hls q, Nat.add_comm p 1]; exact ei p q
      · have : p = d := by omega
        subst this
        rw [rtL_e hls, e1, show (6 : Int32) = nI 6 from rfl, nI_mul, nI_1]
theorem hown_of {S c d x a b : Nat} {ls : List Nat} {fre : Nat → Nat → Bool} {but : Int32} {b16 : Nat → Nat → Int32} {μ μ2 σ2 : St} (hS : 4 ≤ S ∧ S ≤ 10) (hfre : ∀ l s, l < 54 → s < S → (ownO μ S but l s).isNone = fre l s) (hbut : ∀ e, e < 8 → e ≠ c → nI e ≠ but)
    (hbase : ∀ l s, l < 54 → s < 10 → (b16 l s = -1 ∧ (s < S → ∀ e, e < 8 → e ≠ c → live μ e → ¬ hasS μ S e l s)) ∨ (s < S ∧ ∃ e, e < 8 ∧ e ≠ c ∧ b16 l s = nI e ∧ live μ e ∧ hasS μ S e l s ∧ ∀ d, d < 8 → d ≠ c → live μ d → hasS μ S d l s → d = e))
    (hrt : ∀ p, p < d + 2 → rtL a b ls p < 54) (hfr : ∀ p t, p < d + 2 → t < S → x.testBit t = true → fre (rtL a b ls p) ((t + p) % S) = true) (hp2 : hpN μ2 c = d) (hst2 : stN μ2 c = x) (h16 : ∀ p, p < d + 2 → μ2.1 16 0 (8 * c + p) = nI (rtL a b ls p))
    (hg : ∀ l s, l < 54 → s < 10 → (newS S x d a b ls l s → σ2.1 16 0 (10 * l + s) = nI c) ∧ (¬ newS S x d a b ls l s → σ2.1 16 0 (10 * l + s) = b16 l s)) :
    ∀ l s, l < 54 → s < 10 → (hasS μ2 S c l s → s < S ∧ σ2.1 16 0 (10 * l + s) = nI c ∧ ∀ e, e < 8 → e ≠ c → live μ e → ¬ hasS μ S e l s) ∧
      (¬ hasS μ2 S c l s → (σ2.1 16 0 (10 * l + s) = -1 ∧ (s < S → ∀ e, e < 8 → e ≠ c → live μ e → ¬ hasS μ S e l s)) ∨ (s < S ∧ ∃ e, e < 8 ∧ e ≠ c ∧ σ2.1 16 0 (10 * l + s) = nI e ∧ live μ e ∧ hasS μ S e l s ∧ ∀ d, d < 8 → d ≠ c → live μ d → hasS μ S d l s → d = e)) := by
  intro l s hl hs
  have key : hasS μ2 S c l s ↔ newS S x d a b ls l s := by
    unfold hasS newS
    rw [hp2, hst2]
    constructor
    · rintro ⟨p, t, a1, a2, a3, a4, a5⟩
      rw [h16 p a1] at a5
      exact ⟨p, t, a1, a2, a3, a4, nI_inj (by have := hrt p a1; omega) (by omega) a5⟩
    · rintro ⟨p, t, a1, a2, a3, a4, a5⟩
      exact ⟨p, t, a1, a2, a3, a4, by rw [h16 p a1, a5]⟩
  obtain ⟨k1, k2⟩ := hg l s hl hs
  constructor
  · intro z
    have z' := key.mp z
    obtain ⟨p, t, a1, a2, a3, a4, a5⟩ := key.mp z
    have hsS : s < S := by rw [← a4]; exact Nat.mod_lt _ (by omega)
    refine ⟨hsS, k1 z', fun e he ec hle => ?_⟩
    have f := hfr p t a1 a2 a3
    rw [a4, a5, ← hfre l s hl hsS] at f
    exact ownO_no f e he hle (hbut e he ec)
  · intro z
    rw [k2 (fun y => z (key.mpr y))]
    exact hbase l s hl hs
theorem set_eq {σ : St} {c : Nat} {p1 p2 p3 p4 p5 p6 : Int32} : ∃ σ2, f_X2_set σ c p1 p2 p3 p4 p5 p6 = some σ2 ∧ (∀ k, k ≠ 2 → k ≠ 18 → σ2.1 k = σ.1 k) ∧ (∀ e, e ≠ c → σ2.1 2 e = σ.1 2 e ∧ σ2.1 18 e = σ.1 18 e) ∧ (∀ p, p < 8 → σ2.1 18 c p = -1) ∧ σ2.2 = σ.2 ∧
    σ2.1 2 c 0 = σ.1 2 c 0 ∧ σ2.1 2 c 1 = 1 ∧ σ2.1 2 c 2 = p1 ∧ σ2.1 2 c 3 = p2 ∧ σ2.1 2 c 4 = p3 ∧ σ2.1 2 c 5 = p4 ∧ σ2.1 2 c 13 = p5 ∧ σ2.1 2 c 14 = p6 ∧ σ2.1 2 c 7 = -1 ∧ σ2.1 2 c 8 = 0 ∧ σ2.1 2 c 11 = p5 ∧ σ2.1 2 c 9 = 0 ∧ σ2.1 2 c 10 = 0 ∧ σ2.1 2 c 12 = 0 := by
  have loop : ∀ m t σ fu, t + m = 8 → m < fu → ∃ σ2, f_X2_set_L72 c fu σ (nI t) = some σ2 ∧ (∀ k, k ≠ 18 → σ2.1 k = σ.1 k) ∧ (∀ e, e ≠ c → σ2.1 18 e = σ.1 18 e) ∧ (∀ p, p < t → σ2.1 18 c p = σ.1 18 c p) ∧ (∀ p, t ≤ p → p < 8 → σ2.1 18 c p = -1) ∧ σ2.2 = σ.2 := by
    intro m
    induction m with
    | zero =>
      intro t σ fu h1 h2
      obtain ⟨fu, rfl⟩ : ∃ j, fu = j + 1 := ⟨fu - 1, by omega⟩
      refine ⟨σ, ?_, fun _ _ => rfl, fun _ _ => rfl, fun _ _ => rfl, fun p h3 h4 => by omega, rfl⟩
      show f_X2_set_L72b c (f_X2_set_L72 c fu) σ (nI t) = _
      unfold f_X2_set_L72b
      rw [if_neg (nltL 8 8 rfl (by omega) (by omega))]
    | succ m ih =>
      intro t σ fu h1 h2
      obtain ⟨fu, rfl⟩ : ∃ j, fu = j + 1 := ⟨fu - 1, by omega⟩
      obtain ⟨σ2, g1, g2, g3, g4, g5, g6⟩ := ih (t + 1) (si σ 18 c t (-1)) fu (by omega) (by omega)
      refine ⟨σ2, Eq.trans ?_ g1, fun k hk => (g2 k hk).trans (si_k hk), fun e he => (g3 e he).trans (si_i he), fun p hp => (g4 p (by omega)).trans (si_j (by omega)), fun p h3 h4 => ?_, g6⟩
      · show f_X2_set_L72b c (f_X2_set_L72 c fu) σ (nI t) = _
        generalize f_X2_set_L72 c fu = K
        unfold f_X2_set_L72b chk
        rw [if_pos (ltL 8 8 rfl (by omega) (by decide)), if_pos (inbL (show t < 8 by omega) (by decide)), clL (by omega), bnd_eq, nI_1]
      · by_cases q : p = t
        · subst q
          rw [g4 p (by omega), si_eq]
        · exact g5 p (by omega) h4
  obtain ⟨σ2, g1, g2, g3, -, g5, g6⟩ := loop 8 0 (si (si (si (si (si (si (si (si (si (si (si (si (si σ 2 c 1 1) 2 c 2 p1) 2 c 3 p2) 2 c 4 p3) 2 c 5 p4) 2 c 13 p5) 2 c 14 p6) 2 c 7 (-1)) 2 c 8 0) 2 c 11 p5) 2 c 9 0) 2 c 10 0) 2 c 12 0) FU (by omega) (FU_lt (by omega))
  have e2 := g2 2 (by decide)
  refine ⟨σ2, Eq.trans ?_ g1, fun k k2 k18 => ?_, fun e he => ⟨?_, ?_⟩, fun p hp => g5 p (by omega) hp, g6, ?_, ?_, ?_, ?_, ?_, ?_, ?_, ?_, ?_, ?_, ?_, ?_, ?_, ?_⟩
  · unfold f_X2_set
    rw [bnd_eq, bnd_eq, bnd_eq, bnd_eq, bnd_eq, bnd_eq, bnd_eq, bnd_eq, bnd_eq, bnd_eq, bnd_eq, bnd_eq, bnd_eq]
    rfl
  · rw [g2 k k18, si_k k2, si_k k2, si_k k2, si_k k2, si_k k2, si_k k2, si_k k2, si_k k2, si_k k2, si_k k2, si_k k2, si_k k2, si_k k2]
  · rw [e2, si_i he, si_i he, si_i he, si_i he, si_i he, si_i he, si_i he, si_i he, si_i he, si_i he, si_i he, si_i he, si_i he]
  · rw [g3 e he]
    simp (decide := true) only [si_k]
  all_goals (rw [e2]; simp (decide := true) only [si_j, si_eq])
