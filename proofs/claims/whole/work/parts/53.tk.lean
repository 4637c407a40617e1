/-! the parts of a break -/
theorem part_eq {σ : St} {S q r v : Nat} (h4 : 4 ≤ S) (h10 : S ≤ 10) (e : σ.1 5 0 3 = nI S) (hr : r < 3) (hv : v = (if S = 10 then 6 else 5) + 3 * q + r) (hq : v < 100) : f_X5_partOfBreak σ (nI v) = some (nI r) := by
  unfold f_X5_partOfBreak
  rw [e]
  by_cases z : S = 10
  · rw [if_pos z] at hv
    rw [if_pos (eqL 10 10 rfl z), show (6 : Int32) = nI 6 from rfl, show (3 : Int32) = nI 3 from rfl, nI_sub (by omega), nI_rem (by omega) (by decide)]
    congr 2
    omega
  · rw [if_neg z] at hv
    rw [if_neg (neL 10 10 rfl z (by omega) (by decide)), show (5 : Int32) = nI 5 from rfl, show (3 : Int32) = nI 3 from rfl, nI_sub (by omega), nI_rem (by omega) (by decide)]
    congr 2
    omega
theorem takes_break {σ : St} {S v : Nat} (h4 : 4 ≤ S) (h10 : S ≤ 10) (e : σ.1 5 0 3 = nI S) (hv : 5 ≤ v) (hv2 : v < 100) (c : Int32) : f_X5_takes σ (nI v) c = (f_X5_takesBreak σ (nI v) c).bind fun x => chk (isZ x.2) (some (x.1, x.2)) := by
  unfold f_X5_takes
  rw [if_neg (neL 0 0 rfl (by omega) (by omega) (by decide)), if_neg (neL 1 1 rfl (by omega) (by omega) (by decide)), if_neg (neL 2 2 rfl (by omega) (by omega) (by decide)), if_neg (neL 3 3 rfl (by omega) (by omega) (by decide)), if_neg (neL 4 4 rfl (by omega) (by omega) (by decide)), e, if_neg (neL 1 1 rfl (by omega) (by omega) (by decide))]
theorem tk6 {v W H S q : Nat} {σ μ : St} (hg : μ.1 0 0 39 = nI 6) (hG : GR W H σ μ) (h4 : 4 ≤ S) (h10 : S ≤ 10) (e1 : σ.1 5 0 3 = nI S) (e2 : μ.1 0 0 42 = nI S) (hv : v = (if S = 10 then 6 else 5) + 3 * q) (hv2 : v < 100) (c : Int32) : TK v σ μ c := by
  have hv5 : 5 ≤ v := by
    by_cases z : S = 10
    · rw [if_pos z] at hv; omega
    · rw [if_neg z] at hv; omega
  obtain ⟨b, b1, b2⟩ := any_both hG
  have hx : f_X5_takes σ (nI v) c = if c = 45 then some (σ, bz b) else some (σ, 0) := by
    rw [takes_break h4 h10 e1 hv5 hv2]
    unfold f_X5_takesBreak
    rw [part_eq (r := 0) h4 h10 e1 (by omega) hv hv2, Option.bind_some, if_pos (show nI 0 = 0 from rfl)]
    by_cases y : c = 45
    · rw [if_pos y, if_pos y, b1, Option.bind_some]
      cases b
      · exact chkz0 _
      · exact chkz1 _
    · rw [if_neg y, if_neg y]
      exact chkz0 _
  by_cases y : c = 45
  · rw [if_pos y] at hx
    cases b
    · have hm : f_X12_takes μ c = some (si μ 0 0 39 (μ.1 0 0 39), 0) := by
        simp (decide := true) only [f_X12_takes, hg, if_true, if_false, if_pos y, b2, Option.bind_some, goes0, chkz0, chkT]
      exact ⟨_, _, 0, hx, hm, KX.refl σ, KM.s0 (by decide), Or.inl rfl, fun z => absurd z (by decide)⟩
    · have hm : f_X12_takes μ c = some (si μ 0 0 39 7, 1) := by
        simp (decide := true) only [f_X12_takes, hg, if_true, if_false, if_pos y, b2, Option.bind_some, goes1, chkz1, chkT]
      exact ⟨_, _, 1, hx, hm, KX.refl σ, KM.s0 (by decide), Or.inr rfl, fun _ => ⟨7, si_eq, Or.inr (Or.inr (Or.inr (Or.inr (Or.inr ⟨W, H, S, q, hG.cg rfl rfl rfl rfl rfl (si_j (by decide)) (si_j (by decide)) (si_k' (by decide)), h4, h10, e1, by rw [si_j (by decide)]; exact e2, by omega, by omega, by omega, fun z => by omega⟩))))⟩⟩
  · rw [if_neg y] at hx
    have hm : f_X12_takes μ c = some (si μ 0 0 39 (μ.1 0 0 39), 0) := by
      simp (decide := true) only [f_X12_takes, hg, if_true, if_false, if_neg y, Option.bind_some, goes0, chkz0, chkT]
    exact ⟨_, _, 0, hx, hm, KX.refl σ, KM.s0 (by decide), Or.inl rfl, fun z => absurd z (by decide)⟩
theorem tk7 {v W H S q : Nat} {σ μ : St} (hg : μ.1 0 0 39 = nI 7) (hG : GR W H σ μ) (h4 : 4 ≤ S) (h10 : S ≤ 10) (e1 : σ.1 5 0 3 = nI S) (e2 : μ.1 0 0 42 = nI S) (hv : v = (if S = 10 then 6 else 5) + 3 * q + 1) (hv2 : v < 100) (c : Int32) : TK v σ μ c := by
  have hv5 : 5 ≤ v := by
    by_cases z : S = 10
    · rw [if_pos z] at hv; omega
    · rw [if_neg z] at hv; omega
  have hw : W * H ≤ 9 ∧ 0 < W * H := by
    rcases hG.1 with rfl | rfl <;> rcases hG.2.1 with rfl | rfl <;> omega
  have hG2 : GR W H (si σ 5 0 8 (c - 48)) (si μ 0 0 43 (c - 48)) := hG.cg (si_j (by decide)) (si_j (by decide)) (si_k' (by decide)) (si_k' (by decide)) (si_k' (by decide)) (si_j (by decide)) (si_j (by decide)) (si_k' (by decide))
  have r0 : f_X4_routers (si σ 5 0 8 (c - 48)) 0 = some (nI (W * H)) := by
    unfold f_X4_routers
    rw [hG2.2.2.2.2.1, hG2.2.2.2.2.2.1, nI_mul]
  have m4 : (si μ 0 0 43 (c - 48)).1 0 0 40 * (si μ 0 0 43 (c - 48)).1 0 0 41 = nI (W * H) := by rw [hG2.2.2.2.2.2.2.1, hG2.2.2.2.2.2.2.2.1, nI_mul]
  have br : f_X5_takesBreak σ (nI v) c = (f_X4_hasRouter (si σ 5 0 8 (c - 48)) 0 (c - 48)).bind fun r4 => if r4 = 0 then some (si σ 5 0 8 (c - 48), 0) else (f_X5_anyNameable (si σ 5 0 8 (c - 48)) (6 * (c - 48) + 0) (6 * (c - 48) + 6)).bind fun r7 => if r7 = 0 then some (si σ 5 0 8 (c - 48), 0) else some (si σ 5 0 8 (c - 48), 1) := by
    unfold f_X5_takesBreak bnd
    rw [part_eq (r := 1) h4 h10 e1 (by omega) hv hv2, Option.bind_some, if_neg (by decide), if_pos (show nI 1 = 1 from rfl)]
    dsimp only
    rw [si_eq]
    rfl
  have hn7 : ¬ (0 : Int32) = 1 := by decide
  by_cases z : 0 ≤ c - 48 ∧ c - 48 < nI (W * H)
  · obtain ⟨a, ha, ea⟩ : ∃ a, a < W * H ∧ c - 48 = nI a := by
      have z2 := z.2
      rw [i_lt, nI_toInt (by omega)] at z2
      obtain ⟨a, h1, h2⟩ := nat_of (hi := 9) z.1 (by omega)
      rw [h2, nI_toInt (by omega)] at z2
      exact ⟨a, by omega, h2⟩
    have hr : f_X4_hasRouter (si σ 5 0 8 (c - 48)) 0 (c - 48) = some 1 := by
      unfold f_X4_hasRouter
      rw [if_pos z.1, r0, Option.bind_some, if_pos z.2, ea, if_pos (ltL 9 9 rfl (by omega) (by decide))]
    have hwi : f_X12_within (c - 48) 0 (nI (W * H) - 1) = some 1 := by
      refine within_in z.1 ?_
      rw [ea, show (1 : Int32) = nI 1 from rfl, nI_sub (by omega)]
      exact nI_le (by omega) (by omega)
    obtain ⟨b, b1, b2⟩ := router_both hG2 ha
    have e6 : 6 * (c - 48) + 0 = nI (6 * a) := by rw [ea]; exact six a 0
    have e7 : 6 * (c - 48) + 6 = nI (6 * a + 6) := by rw [ea]; exact six a 6
    rw [← ea] at b2
    cases b
    · have hx : f_X5_takes σ (nI v) c = some (si σ 5 0 8 (c - 48), 0) := by
        rw [takes_break h4 h10 e1 hv5 hv2, br, hr, Option.bind_some, if_neg (by decide), e6, e7, b1, Option.bind_some, if_pos (show bz false = 0 from rfl)]
        exact chkz0 _
      have hm : f_X12_takes μ c = some (si (si μ 0 0 43 (c - 48)) 0 0 39 ((si μ 0 0 43 (c - 48)).1 0 0 39), 0) := by
        simp (decide := true) only [f_X12_takes, hg, bnd, if_true, if_false, m4, hwi, b2, Option.bind_some, goes0, chkz0, chkT]
      exact ⟨_, _, 0, hx, hm, KX.s5 (by decide), (KM.s0 (by decide)).tr (KM.s0 (by decide)), Or.inl rfl, fun z => absurd z (by decide)⟩
    · have hx : f_X5_takes σ (nI v) c = some (si σ 5 0 8 (c - 48), 1) := by
        rw [takes_break h4 h10 e1 hv5 hv2, br, hr, Option.bind_some, if_neg (by decide), e6, e7, b1, Option.bind_some, if_neg (by decide)]
        exact chkz1 _
      have hm : f_X12_takes μ c = some (si (si μ 0 0 43 (c - 48)) 0 0 39 8, 1) := by
        simp (decide := true) only [f_X12_takes, hg, bnd, if_true, if_false, m4, hwi, b2, Option.bind_some, goes1, chkz1, chkT]
      exact ⟨_, _, 1, hx, hm, KX.s5 (by decide), (KM.s0 (by decide)).tr (KM.s0 (by decide)), Or.inr rfl, fun _ => ⟨8, si_eq, Or.inr (Or.inr (Or.inr (Or.inr (Or.inr ⟨W, H, S, q, hG2.cg rfl rfl rfl rfl rfl (si_j (by decide)) (si_j (by decide)) (si_k' (by decide)), h4, h10, by rw [si_j (by decide)]; exact e1, by rw [si_j (by decide), si_j (by decide)]; exact e2, by omega, by omega, by omega, fun _ => ⟨a, ha, by rw [si_eq]; exact ea, by rw [si_j (by decide), si_eq]; exact ea⟩⟩))))⟩⟩
  · have hr : f_X4_hasRouter (si σ 5 0 8 (c - 48)) 0 (c - 48) = some 0 := by
      unfold f_X4_hasRouter
      by_cases z0 : 0 ≤ c - 48
      · rw [if_pos z0, r0, Option.bind_some, if_neg (fun y => z ⟨z0, y⟩)]
      · rw [if_neg z0]
    have hwi : f_X12_within (c - 48) 0 (nI (W * H) - 1) = some 0 := by
      refine within_out (fun y => z ⟨y.1, ?_⟩)
      have y2 := y.2
      rw [show (1 : Int32) = nI 1 from rfl, nI_sub (by omega), i_le, nI_toInt (by omega)] at y2
      rw [i_lt, nI_toInt (by omega)]
      omega
    have hx : f_X5_takes σ (nI v) c = some (si σ 5 0 8 (c - 48), 0) := by
      rw [takes_break h4 h10 e1 hv5 hv2, br, hr, Option.bind_some, if_pos rfl]
      exact chkz0 _
    have hm : f_X12_takes μ c = some (si (si μ 0 0 43 (c - 48)) 0 0 39 ((si μ 0 0 43 (c - 48)).1 0 0 39), 0) := by
      simp (decide := true) only [f_X12_takes, hg, bnd, if_true, if_false, m4, hwi, Option.bind_some, goes0, chkz0, chkT]
    exact ⟨_, _, 0, hx, hm, KX.s5 (by decide), (KM.s0 (by decide)).tr (KM.s0 (by decide)), Or.inl rfl, fun z => absurd z (by decide)⟩
theorem port_same (c : Int32) : f_X5_portOf c = f_X12_portBy c := rfl
theorem port_some (c : Int32) : f_X12_portBy c = some (-1) ∨ ∃ p, 2 ≤ p ∧ p < 6 ∧ f_X12_portBy c = some (nI p) := by
  unfold f_X12_portBy
  by_cases q1 : c = 101
  · rw [if_pos q1]; exact Or.inr ⟨3, by omega, by omega, rfl⟩
  · by_cases q2 : c = 110
    · rw [if_neg q1, if_pos q2]; exact Or.inr ⟨2, by omega, by omega, rfl⟩
    · by_cases q3 : c = 115
      · rw [if_neg q1, if_neg q2, if_pos q3]; exact Or.inr ⟨4, by omega, by omega, rfl⟩
      · by_cases q4 : c = 119
        · rw [if_neg q1, if_neg q2, if_neg q3, if_pos q4]; exact Or.inr ⟨5, by omega, by omega, rfl⟩
        · rw [if_neg q1, if_neg q2, if_neg q3, if_neg q4]; exact Or.inl rfl
theorem tk8 {v W H S q a : Nat} {σ μ : St} (hg : μ.1 0 0 39 = nI 8) (hG : GR W H σ μ) (h4 : 4 ≤ S) (h10 : S ≤ 10) (e1 : σ.1 5 0 3 = nI S) (e2 : μ.1 0 0 42 = nI S) (hv : v = (if S = 10 then 6 else 5) + 3 * q + 2) (hv2 : v < 100) (ha : a < W * H) (a1 : σ.1 5 0 8 = nI a) (a2 : μ.1 0 0 43 = nI a) (c : Int32) : TK v σ μ c := by
  have hv5 : 5 ≤ v := by
    by_cases z : S = 10
    · rw [if_pos z] at hv; omega
    · rw [if_neg z] at hv; omega
  have hw : W * H ≤ 9 := by
    rcases hG.1 with rfl | rfl <;> rcases hG.2.1 with rfl | rfl <;> omega
  have br : f_X5_takesBreak σ (nI v) c = (f_X12_portBy c).bind fun r8 => (f_X5_takesPort σ r8).bind fun x => chk (isZ x.2) (some (x.1, x.2)) := by
    unfold f_X5_takesBreak bnd
    rw [part_eq (r := 2) h4 h10 e1 (by omega) hv hv2, Option.bind_some, if_neg (by decide), if_neg (by decide), port_same]
  have tm : f_X12_takes μ c = (f_X12_takesPort μ c).bind fun x => chk (isZ x.2) (some (x.1, x.2)) := by
    simp (decide := true) only [f_X12_takes, hg, if_true, if_false]
  rcases port_some c with hp | ⟨p, hp2, hp6, hp⟩
  · have hx : f_X5_takes σ (nI v) c = some (σ, 0) := by
      rw [takes_break h4 h10 e1 hv5 hv2, br, hp, Option.bind_some]
      unfold f_X5_takesPort f_X11_linkOf
      rw [Option.bind_some, if_pos rfl, Option.bind_some]
      show Option.bind (chk (isZ 0) (some (σ, 0))) _ = _
      rw [chkz0]
      exact chkz0 _
    have hm : f_X12_takes μ c = some (μ, 0) := by
      rw [tm]
      unfold f_X12_takesPort
      rw [hp, Option.bind_some, if_pos rfl]
      exact chkz0 _
    exact ⟨_, _, 0, hx, hm, KX.refl σ, KM.refl μ, Or.inl rfl, fun z => absurd z (by decide)⟩
  · have hl : 6 * a + p < 54 := by omega
    have np : ¬ nI p = -1 := nI_nm1 (by omega)
    have e6 : 6 * nI a + nI p = nI (6 * a + p) := six a p
    have hL := isLeft_eq hG ha hp2 hp6
    have h13 := (hG.2.2.2.2.2.2.2.2 (6 * a + p) hl).2.2.1
    have i1 : inb (nI (6 * a + p)) 54 := inbL hl (by decide)
    have c1 : Int32.toNatClampNeg (nI (6 * a + p)) = 6 * a + p := clL (by omega)
    have h13' : σ.1 13 0 (6 * a + p) = bz (nm W H μ (6 * a + p)) := h13
    cases hb : nm W H μ (6 * a + p)
    · rw [hb] at hL h13'
      have hx : f_X5_takes σ (nI v) c = some (σ, 0) := by
        rw [takes_break h4 h10 e1 hv5 hv2, br, hp, Option.bind_some]
        unfold f_X5_takesPort f_X11_linkOf chk
        rw [Option.bind_some, if_neg np, a1, e6, isLN hl, Option.bind_some, if_neg (by decide), if_pos i1, c1, h13', if_pos (show bz false = 0 from rfl), Option.bind_some]
        show Option.bind (if isZ 0 then some (σ, 0) else none) _ = _
        rw [if_pos (Or.inl rfl)]
        exact chkz0 _
      have hm : f_X12_takes μ c = some (μ, 0) := by
        rw [tm]
        unfold f_X12_takesPort
        rw [hp, Option.bind_some, if_neg np, a2, hL, Option.bind_some, if_pos (show bz false = 0 from rfl)]
        exact chkz0 _
      exact ⟨_, _, 0, hx, hm, KX.refl σ, KM.refl μ, Or.inl rfl, fun z => absurd z (by decide)⟩
    · rw [hb] at hL h13'
      have hx : f_X5_takes σ (nI v) c = some (si σ 13 0 (6 * a + p) 0, 1) := by
        rw [takes_break h4 h10 e1 hv5 hv2, br, hp, Option.bind_some]
        unfold f_X5_takesPort f_X11_linkOf chk bnd
        rw [Option.bind_some, if_neg np, a1, e6, isLN hl, Option.bind_some, if_neg (by decide), if_pos i1, c1, h13', if_neg (by decide), if_pos i1, Option.bind_some]
        show Option.bind (if isZ 1 then some (si σ 13 0 (6 * a + p) 0, 1) else none) _ = _
        rw [if_pos (Or.inr rfl)]
        exact chkz1 _
      have hm : f_X12_takes μ c = some (si (si μ 44 0 (6 * a + p) 1) 0 0 39 6, 1) := by
        rw [tm]
        unfold f_X12_takesPort chk bnd
        rw [hp, Option.bind_some, if_neg np, a2, hL, Option.bind_some, if_neg (by decide), e6, if_pos i1, c1]
        exact chkz1 _
      refine ⟨_, _, 1, hx, hm, KX.s13, KM.s44.tr (KM.s0 (by decide)), Or.inr rfl, fun _ => ⟨6, si_eq, Or.inr (Or.inr (Or.inr (Or.inr (Or.inr ⟨W, H, S, q + 1, ?_, h4, h10, by rw [si_k (by decide)]; exact e1, by rw [si_j (by decide), si_k (by decide)]; exact e2, by omega, by omega, by omega, fun z => by omega⟩))))⟩⟩
      obtain ⟨w1, w2, w3, w4, w5, w6, w7, w8, w9⟩ := hG
      refine ⟨w1, w2, by rw [si_k (by decide)]; exact w3, by rw [si_k (by decide)]; exact w4, by rw [si_k (by decide)]; exact w5, by rw [si_k (by decide)]; exact w6, by rw [si_j (by decide), si_k (by decide)]; exact w7, by rw [si_j (by decide), si_k (by decide)]; exact w8, fun l hl2 => ?_⟩
      obtain ⟨y1, y2, y3, y4⟩ := w9 l hl2
      rw [si_k (show 11 ≠ 13 by decide), si_k (show 44 ≠ 0 by decide)]
      by_cases z : l = 6 * a + p
      · subst z
        rw [si_eq, si_eq, decide_eq_false (by decide), Bool.and_false]
        unfold nm at hb
        rw [Bool.and_eq_true] at hb
        exact ⟨y1, Or.inr rfl, rfl, fun _ => hb.1⟩
      · rw [si_j z, si_j z]
        exact ⟨y1, y2, y3, y4⟩
