/-! a circuit gets its way -/
theorem res_some {W H S b : Nat} {br : Nat → Int32} (hw : okWHS W H S) : ∀ m a P ts x ls, a < W * H → resW W H br b m a P ts = some (x, ls) → ls.length = m ∧ x = ts ls ∧ ∀ i, i < m → ls.getD i 0 < 54 ∧ endV W H (ls.getD i 0) ≠ -2 := by
  have h9 := hw.WH.2.2
  intro m
  induction m with
  | zero =>
    intro a P ts x ls ha h
    have h : (if a = b ∧ ts [] ≠ 0 then some (ts [], ([] : List Nat)) else none) = some (x, ls) := h
    by_cases q : a = b ∧ ts [] ≠ 0
    · rw [if_pos q] at h
      injection h with h
      injection h with h1 h2
      subst h1 h2
      exact ⟨rfl, rfl, fun i hi => by omega⟩
    · rw [if_neg q] at h
      cases h
  | succ m ih =>
    intro a P ts x ls ha h
    obtain ⟨q, hq, h⟩ := List.exists_of_findSome?_eq_some (show (List.range' 0 4).findSome? _ = some (x, ls) from h)
    rw [List.mem_range'_1] at hq
    cases ho : okL W H br P (6 * a + (2 + q))
    · rw [ho, if_neg (by decide)] at h
      cases h
    · rw [ho, if_pos rfl] at h
      obtain ⟨⟨y, ls'⟩, h1, h2⟩ := map_some_ne h
      injection h2 with h3 h4
      subst h3 h4
      have ein := end_in (l := 6 * a + (2 + q)) hw (by omega) (by omega) (by omega)
      have ne : endV W H (6 * a + (2 + q)) ≠ -2 := by
        intro z
        unfold okL at ho
        rw [decide_eq_false (fun v => v z), Bool.false_and] at ho
        exact absurd ho (by decide)
      have hx : nxL W H (6 * a + (2 + q)) < W * H := by
        rcases ein with z | z
        · exact absurd z ne
        · exact z.1
      obtain ⟨g1, g2, g3⟩ := ih _ _ _ _ _ hx h1
      refine ⟨by rw [List.length_cons, g1], g2, fun i hi => ?_⟩
      cases i with
      | zero => exact ⟨show 6 * a + (2 + q) < 54 by omega, ne⟩
      | succ i => exact g3 i (by omega)
def rtL (a b : Nat) (ls : List Nat) (p : Nat) : Nat := ((6 * a) :: (ls ++ [6 * b + 1])).getD p 0
theorem rtL_s {a b d i : Nat} {ls : List Nat} (hls : ls.length = d) (hi : i < d) : rtL a b ls (i + 1) = ls.getD i 0 := by
  unfold rtL
  rw [List.getD_cons_succ, getD_app1 (by omega)]
theorem rtL_e {a b d : Nat} {ls : List Nat} (hls : ls.length = d) : rtL a b ls (d + 1) = 6 * b + 1 := by
  unfold rtL
  rw [List.getD_cons_succ, getD_app2 (by omega), hls, Nat.sub_self]
  rfl
theorem setRoute_loop {c d b : Nat} {ls : List Nat} (hd : d ≤ 6) : ∀ m t σ fu, t + m = d → m < fu → σ.1 2 c 6 = nI d → σ.1 2 c 4 = nI b → (∀ i, i < d → σ.1 19 0 i = nI (ls.getD i 0)) → ∃ σ2, f_X2_setRoute_L41 c fu σ (nI t) = some σ2 ∧ (∀ k, k ≠ 17 → σ2.1 k = σ.1 k) ∧ (∀ e, e ≠ c → σ2.1 17 e = σ.1 17 e) ∧ (∀ p, p ≤ t → σ2.1 17 c p = σ.1 17 c p) ∧ (∀ i, t ≤ i → i < d → σ2.1 17 c (i + 1) = nI (ls.getD i 0)) ∧ σ2.1 17 c (d + 1) = nI (6 * b + 1) ∧ σ2.2 = σ.2 := by
  intro m
  induction m with
  | zero =>
    intro t σ fu h1 h2 e6 e4 e19
    obtain ⟨fu, rfl⟩ : ∃ j, fu = j + 1 := ⟨fu - 1, by omega⟩
    refine ⟨si σ 17 c (d + 1) (nI (6 * b + 1)), ?_, fun k hk => si_k hk, fun e he => si_i he, fun p hp => si_j (by omega), fun i h3 h4 => by omega, si_eq, rfl⟩
    show f_X2_setRoute_L41b c (f_X2_setRoute_L41 c fu) σ (nI t) = _
    unfold f_X2_setRoute_L41b f_X11_linkOf chk
    rw [e6, if_neg (nI_nlt (by omega) (by omega)), e4, Option.bind_some, nI_1, if_pos (inbL (show d + 1 < 8 by omega) (by decide)), clL (by omega), bnd_eq, show (6 : Int32) * nI b + 1 = nI (6 * b + 1) from by rw [show (6 : Int32) = nI 6 from rfl, nI_mul, nI_1]]
  | succ m ih =>
    intro t σ fu h1 h2 e6 e4 e19
    obtain ⟨fu, rfl⟩ : ∃ j, fu = j + 1 := ⟨fu - 1, by omega⟩
    obtain ⟨σ2, g1, g2, g3, g4, g5, g6, g7⟩ := ih (t + 1) (si σ 17 c (t + 1) (nI (ls.getD t 0))) fu (by omega) (by omega) (by rw [si_k (by decide)]; exact e6) (by rw [si_k (by decide)]; exact e4) (by rw [si_k (by decide)]; exact e19)
    refine ⟨σ2, Eq.trans ?_ g1, fun k hk => (g2 k hk).trans (si_k hk), fun e he => (g3 e he).trans (si_i he), fun p hp => (g4 p (by omega)).trans (si_j (by omega)), fun i h3 h4 => ?_, g6, g7⟩
    · show f_X2_setRoute_L41b c (f_X2_setRoute_L41 c fu) σ (nI t) = _
      generalize f_X2_setRoute_L41 c fu = K
      unfold f_X2_setRoute_L41b chk
      rw [e6, if_pos (nI_lt (by omega) (by omega)), nI_1, if_pos (inbL (show t < 6 by omega) (by decide)), if_pos (inbL (show t + 1 < 8 by omega) (by decide)), clL (by omega), clL (by omega), bnd_eq, e19 t (by omega)]
    · by_cases q : i = t
      · subst q
        rw [g4 (i + 1) (Nat.le_refl _), si_eq]
      · exact g5 i (by omega) h4
theorem setRoute_eq {σ : St} {c d a b x : Nat} {ls : List Nat} (hd : 1 ≤ d ∧ d ≤ 6) (e3 : σ.1 2 c 3 = nI a) (e4 : σ.1 2 c 4 = nI b) (e19 : ∀ i, i < d → σ.1 19 0 i = nI (ls.getD i 0)) (hls : ls.length = d) :
    ∃ σ2, f_X2_setRoute σ c (nI d) (nI x) = some σ2 ∧ (∀ k, k ≠ 2 → k ≠ 17 → σ2.1 k = σ.1 k) ∧ (∀ e, e ≠ c → σ2.1 2 e = σ.1 2 e ∧ σ2.1 17 e = σ.1 17 e) ∧ (∀ j, j ≠ 6 → j ≠ 15 → σ2.1 2 c j = σ.1 2 c j) ∧ σ2.1 2 c 6 = nI d ∧ σ2.1 2 c 15 = nI x ∧ (∀ p, p < d + 2 → σ2.1 17 c p = nI (rtL a b ls p)) ∧ σ2.2 = σ.2 := by
  have n6 : ¬ (6 : Int32) < nI d := nI_nlt (a := 6) hd.2 (by decide)
  have p0 : (0 : Int32) < nI d := nI_lt (a := 0) (by omega) (by omega)
  obtain ⟨σ2, g1, g2, g3, g4, g5, g6, g7⟩ := setRoute_loop (c := c) (b := b) (ls := ls) hd.2 d 0 (si (si (si σ 2 c 6 (nI d)) 2 c 15 (nI x)) 17 c 0 (nI (6 * a))) FU (by omega) (FU_lt (by omega)) (by rw [si_k (by decide), si_j (by decide), si_eq]) (by rw [si_k (by decide), si_j (by decide), si_j (by decide)]; exact e4) (by rw [si_k (by decide), si_k (by decide), si_k (by decide)]; exact e19)
  refine ⟨σ2, Eq.trans ?_ g1, fun k h2 h17 => (g2 k h17).trans ((si_k h17).trans ((si_k h2).trans (si_k h2))), fun e he => ⟨by rw [g2 2 (by decide), si_k (by decide), si_i he, si_i he], by rw [g3 e he, si_i he, si_k (by decide), si_k (by decide)]⟩, fun j h6 h15 => by rw [g2 2 (by decide), si_k (by decide), si_j h15, si_j h6], by rw [g2 2 (by decide), si_k (by decide), si_j (by decide), si_eq], by rw [g2 2 (by decide), si_k (by decide), si_eq], fun p hp => ?_, g7⟩
  · unfold f_X2_setRoute f_X11_linkOf
    rw [if_neg n6, if_neg n6, if_pos p0, bnd_eq, bnd_eq, si_j (show 3 ≠ 15 by decide), si_j (show 3 ≠ 6 by decide), e3, Option.bind_some, bnd_eq, show (6 : Int32) * nI a + 0 = nI (6 * a) from by rw [show (6 : Int32) = nI 6 from rfl, nI_mul]; exact nI_add _ 0]
    rfl
  · cases p with
    | zero => rw [g4 0 (Nat.le_refl _), si_eq]; rfl
    | succ p =>
      by_cases q : p < d
      · rw [g5 p (by omega) q, rtL_s hls q]
      · have : p = d := by omega
        subst this
        rw [g6, rtL_e hls]
/-- the slots of a way with its starts -/
def newS (S x d a b : Nat) (ls : List Nat) (l s : Nat) : Prop := ∃ p t, p < d + 2 ∧ t < S ∧ x.testBit t = true ∧ (t + p) % S = s ∧ rtL a b ls p = l
theorem giveTo_eq {σ : St} {S c d a b x : Nat} {ls : List Nat} (hS : 0 < S ∧ S ≤ 10) (eS : σ.1 1 0 1 = nI S) (hc : c < 8) (hd : 1 ≤ d ∧ d ≤ 6) (hx : x < 1024) (e0 : σ.1 2 c 0 = nI c) (e3 : σ.1 2 c 3 = nI a) (e4 : σ.1 2 c 4 = nI b) (e66 : σ.1 6 0 6 = nI d) (e67 : σ.1 6 0 7 = nI x) (e19 : ∀ i, i < d → σ.1 19 0 i = nI (ls.getD i 0)) (hls : ls.length = d) (hrt : ∀ p, p < d + 2 → rtL a b ls p < 54) :
    ∃ σ2, f_X6_giveTo σ c = some σ2 ∧ (∀ k, k ≠ 2 → k ≠ 16 → k ≠ 17 → σ2.1 k = σ.1 k) ∧ (∀ e, e ≠ c → σ2.1 2 e = σ.1 2 e ∧ σ2.1 17 e = σ.1 17 e) ∧ (∀ j, j ≠ 6 → j ≠ 15 → σ2.1 2 c j = σ.1 2 c j) ∧ σ2.1 2 c 6 = nI d ∧ σ2.1 2 c 15 = nI x ∧ (∀ p, p < d + 2 → σ2.1 17 c p = nI (rtL a b ls p)) ∧ (∀ l s, l < 54 → s < 10 → (newS S x d a b ls l s → σ2.1 16 0 (10 * l + s) = nI c) ∧ (¬ newS S x d a b ls l s → σ2.1 16 0 (10 * l + s) = σ.1 16 0 (10 * l + s))) ∧ σ2.2 = σ.2 := by
  obtain ⟨σ1, g1, g2, g3, g4, g5, g6, g7, g8⟩ := setRoute_eq (c := c) (x := x) hd e3 e4 e19 hls
  have mk := mark_eq (σ := σ1) (v := nI c) (c := c) (by rw [g2 1 (by decide) (by decide)]; exact eS) hS g6 hx g5 hd.2 (fun p hp => ⟨_, hrt p hp, g7 p hp⟩)
  refine ⟨s16 σ1 (mkW σ1 S x c d (nI c)), ?_, fun k k2 k16 k17 => (s16_k k16).trans (g2 k k2 k17), fun e he => ⟨by rw [s16_k (by decide)]; exact (g3 e he).1, by rw [s16_k (by decide)]; exact (g3 e he).2⟩, fun j j6 j15 => by rw [s16_k (by decide)]; exact g4 j j6 j15, by rw [s16_k (by decide)]; exact g5, by rw [s16_k (by decide)]; exact g6, by rw [s16_k (by decide)]; exact g7, fun l s hl hs => ?_, g8⟩
  · unfold f_X6_giveTo
    rw [e66, e67, g1, Option.bind_some, g4 0 (by decide) (by decide), e0, mk, Option.bind_some]
  · have key : (List.range (d + 2)).any (fun p => (List.range S).any (fun t => x.testBit t && decide (10 * l + s = 10 * nN (σ1.1 17 c p) + (t + p) % S))) = true ↔ newS S x d a b ls l s := by
      unfold newS
      simp only [List.any_eq_true, List.mem_range, Bool.and_eq_true, decide_eq_true_eq]
      have lk : ∀ p, p < d + 2 → nN (σ1.1 17 c p) = rtL a b ls p := by
        intro p hp
        unfold nN
        rw [g7 p hp, clL (by have := hrt p hp; omega)]
      constructor
      · rintro ⟨p, hp, t, ht, h1, h2⟩
        rw [lk p hp] at h2
        have hm : (t + p) % S < S := Nat.mod_lt _ hS.1
        exact ⟨p, t, hp, ht, h1, by omega, by omega⟩
      · rintro ⟨p, t, hp, ht, h1, h2, h3⟩
        exact ⟨p, hp, t, ht, h1, by rw [lk p hp, h2, h3]⟩
    rw [s16_w, mkW_eq, g2 16 (by decide) (by decide)]
    exact ⟨fun z => by rw [if_pos (key.mpr z)], fun z => by rw [if_neg (fun y => z (key.mp y))]⟩
theorem layWay_loop {c d : Nat} (hc : c < 8) (hd : d ≤ 6) : ∀ m t μ fu, t + m = d + 2 → m < fu → μ.1 0 0 45 = nI d → ∃ μ2, f_X12_layWay_L19 (nI c) fu μ (nI t) = some μ2 ∧ (∀ k, k ≠ 16 → μ2.1 k = μ.1 k) ∧ (∀ p, t ≤ p → p < d + 2 → μ2.1 16 0 (8 * c + p) = μ.1 46 0 p) ∧ (∀ j, (∀ p, t ≤ p → p < d + 2 → j ≠ 8 * c + p) → μ2.1 16 0 j = μ.1 16 0 j) := by
  intro m
  induction m with
  | zero =>
    intro t μ fu h1 h2 e45
    obtain ⟨fu, rfl⟩ : ∃ j, fu = j + 1 := ⟨fu - 1, by omega⟩
    refine ⟨μ, ?_, fun _ _ => rfl, fun p h3 h4 => by omega, fun _ _ => rfl⟩
    show f_X12_layWay_L19b (nI c) (f_X12_layWay_L19 (nI c) fu) μ (nI t) = _
    unfold f_X12_layWay_L19b
    rw [e45, show nI d + 2 = nI (d + 2) from nI_add d 2, if_neg (nI_nlt (by omega) (by omega))]
  | succ m ih =>
    intro t μ fu h1 h2 e45
    obtain ⟨fu, rfl⟩ : ∃ j, fu = j + 1 := ⟨fu - 1, by omega⟩
    obtain ⟨μ2, g1, g2, g3, g4⟩ := ih (t + 1) (si μ 16 0 (8 * c + t) (μ.1 46 0 t)) fu (by omega) (by omega) (by rw [si_k (by decide)]; exact e45)
    refine ⟨μ2, Eq.trans ?_ g1, fun k hk => (g2 k hk).trans (si_k hk), fun p h3 h4 => ?_, fun j hj => ?_⟩
    · show f_X12_layWay_L19b (nI c) (f_X12_layWay_L19 (nI c) fu) μ (nI t) = _
      generalize f_X12_layWay_L19 (nI c) fu = K
      unfold f_X12_layWay_L19b chk
      rw [e45, show nI d + 2 = nI (d + 2) from nI_add d 2, if_pos (nI_lt (by omega) (by omega)), if_pos (inbL (show t < 8 by omega) (by decide)), show (8 : Int32) * nI c + nI t = nI (8 * c + t) from by rw [show (8 : Int32) = nI 8 from rfl, nI_mul, nI_add], if_pos (inbL (show 8 * c + t < 64 by omega) (by decide)), clL (by omega), clL (by omega), bnd_eq, nI_1]
    · by_cases q : p = t
      · subst q
        rw [g4 (8 * c + p) (fun p' h5 h6 => by omega), si_eq]
      · rw [g3 p (by omega) h4, si_k (by decide)]
    · rw [g4 j (fun p h3 h4 => hj p (by omega) h4), si_j (hj t (Nat.le_refl _) (by omega))]
theorem layWay_eq {μ : St} {c d x : Nat} (hc : c < 8) (hd : d ≤ 6) (e45 : μ.1 0 0 45 = nI d) : ∃ μ2, f_X12_layWay μ (nI c) (nI x) = some μ2 ∧ (∀ k, k ≠ 15 → k ≠ 16 → k ≠ 17 → μ2.1 k = μ.1 k) ∧ (∀ e, e ≠ c → μ2.1 15 0 e = μ.1 15 0 e ∧ μ2.1 17 0 e = μ.1 17 0 e) ∧ μ2.1 15 0 c = nI d ∧ μ2.1 17 0 c = nI x ∧ (∀ p, p < d + 2 → μ2.1 16 0 (8 * c + p) = μ.1 46 0 p) ∧ (∀ e p, e ≠ c → p < 8 → μ2.1 16 0 (8 * e + p) = μ.1 16 0 (8 * e + p)) := by
  obtain ⟨μ2, g1, g2, g3, g4⟩ := layWay_loop hc hd (d + 2) 0 (si (si μ 15 0 c (nI d)) 17 0 c (nI x)) FU (by omega) (FU_lt (by omega)) (by rw [si_k (by decide), si_k (by decide)]; exact e45)
  have i1 : inb (nI c) 8 := inbL hc (by decide)
  refine ⟨μ2, Eq.trans ?_ g1, fun k k1 k2 k3 => (g2 k k2).trans ((si_k k3).trans (si_k k1)), fun e he => ⟨by rw [g2 15 (by decide), si_k (by decide), si_j he], by rw [g2 17 (by decide), si_j he, si_k (by decide)]⟩, by rw [g2 15 (by decide), si_k (by decide), si_eq], by rw [g2 17 (by decide), si_eq], fun p hp => by rw [g3 p (by omega) hp, si_k (by decide), si_k (by decide)], fun e p he hp => by rw [g4 (8 * e + p) (fun p' _ h => by omega), si_k (by decide), si_k (by decide)]⟩
  unfold f_X12_layWay chk
  rw [if_pos i1, clL (by omega), bnd_eq, if_pos i1, bnd_eq, e45]
  rfl
