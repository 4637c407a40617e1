/-! the reference's search over a stretch of rows of ports -/
theorem code_step {W H S d a b R kd n : Nat} {br : Nat → Int32} {fre : Nat → Nat → Bool} {but : Int32} {μ : St} (hw : okWHS W H S) (hS : 4 ≤ S ∧ S ≤ 10) (hd : d ≤ 6) (hR : R < 4 ^ d) (ha : a < W * H) (hb : b < W * H) (hn : 1 ≤ n ∧ n ≤ 4) (hk : kd ≤ 4) (hg : MG W H S br fre but μ) :
    ((∀ ls, wayOk W H br d R a (fun j => decide (j = a)) ≠ some (b, ls)) ∧ ∃ μ', Scr μ' μ ∧ ∀ K6 K v6, f_X12_findWay_L16b K6 (nI kd) (nI a) (nI b) (nI n) but (nI d) K μ v6 (nI R) = K μ' v6 (nI (R + 1))) ∨
    ∃ ls, wayOk W H br d R a (fun j => decide (j = a)) = some (b, ls) ∧ ((tst fre S kd n a b ls = 0 ∧ ∃ μ', Scr μ' μ ∧ ∀ K6 K v6, f_X12_findWay_L16b K6 (nI kd) (nI a) (nI b) (nI n) but (nI d) K μ v6 (nI R) = K μ' 1 (nI (R + 1))) ∨
      (tst fre S kd n a b ls ≠ 0 ∧ ∃ μ', Scr μ' μ ∧ (∀ K6 K v6, f_X12_findWay_L16b K6 (nI kd) (nI a) (nI b) (nI n) but (nI d) K μ v6 (nI R) = some (μ', nI (tst fre S kd n a b ls))) ∧ μ'.1 0 0 45 = nI d ∧ μ'.1 46 0 0 = 6 * nI a ∧ (∀ i, i < d → μ'.1 46 0 (1 + i) = nI (ls.getD i 0)) ∧ μ'.1 46 0 (d + 1) = 6 * nI b + 1)) := by
  have h9 := hw.WH.2.2
  have p4 := p46 hd
  have p2 : 2 ^ S ≤ 1024 := Nat.pow_le_pow_right (n := 2) (by decide) hS.2
  have lt : nI R < nI (4 ^ d) := nI_lt hR (by omega)
  rcases isWay_eq (b := b) hw hd hR ha hg.2.1 hg.2.2.1 hg.2.2.2.1 with ⟨w, μ', q1, q2⟩ | ⟨e, ls, he, w, hls, μ', q1, q2, q3, q4, q5, q6⟩
  · left
    refine ⟨fun ls z => (by rw [w] at z; cases z), μ', q2, fun K6 K v6 => ?_⟩
    unfold f_X12_findWay_L16b
    rw [ways_eq hd, Option.bind_some, if_pos lt, q1, Option.bind_some, nI_1]
    exact if_pos rfl
  · by_cases eb : e = b
    · subst eb
      right
      refine ⟨ls, w, ?_⟩
      rw [if_pos rfl] at q1
      have hg' := hg.scr q2
      have fw := free_way hg' ⟨by omega, hS.2⟩ hd (by omega) (by omega) hls q3 q4 q5 q6
      have hlt : facc fre S (fset fre S (6 * a) 0) 1 (ls ++ [6 * e + 1]) < 2 ^ S := Nat.lt_of_le_of_lt (facc_le _ _ _) fset_lt
      obtain ⟨c1, -, c3, -⟩ := chN_eq (μ := μ') hS hg'.1.1 hlt hn hk
      have c3' : f_X12_startsFor μ' (nI kd) (nI n) (nI (facc fre S (fset fre S (6 * a) 0) 1 (ls ++ [6 * e + 1]))) = some (if tst fre S kd n a e ls = 0 then -1 else nI (tst fre S kd n a e ls)) := c3
      have ct : tst fre S kd n a e ls < 2 ^ S := c1
      by_cases t0 : tst fre S kd n a e ls = 0
      · left
        refine ⟨t0, μ', q2, fun K6 K v6 => ?_⟩
        unfold f_X12_findWay_L16b
        rw [ways_eq hd, Option.bind_some, if_pos lt, q1, Option.bind_some, nI_1]
        dsimp only
        rw [if_neg (by decide), fw, Option.bind_some, c3', Option.bind_some, if_pos t0, if_pos rfl]
      · right
        refine ⟨t0, μ', q2, fun K6 K v6 => ?_, q3, q4, fun i hi => (q5 i hi).1, q6⟩
        unfold f_X12_findWay_L16b
        rw [ways_eq hd, Option.bind_some, if_pos lt, q1, Option.bind_some, nI_1]
        dsimp only
        rw [if_neg (by decide), fw, Option.bind_some, c3', Option.bind_some, if_neg t0, if_neg (nI_nm1 (by omega))]
    · left
      refine ⟨fun ls' z => ?_, μ', q2, fun K6 K v6 => ?_⟩
      · rw [w] at z
        injection z with z
        exact eb (congrArg Prod.fst z)
      · unfold f_X12_findWay_L16b
        rw [ways_eq hd, Option.bind_some, if_pos lt, q1, Option.bind_some, nI_1, if_neg (fun z => eb (nI_inj (by omega) (by omega) z))]
        exact if_pos rfl
/-- a stretch in which no row of ports is a way -/
theorem stretch_dead {W H S d a b kd n : Nat} {br : Nat → Int32} {fre : Nat → Nat → Bool} {but : Int32} {K6 : St → Int32 → Int32 → Option (St × Int32)} (hw : okWHS W H S) (hS : 4 ≤ S ∧ S ≤ 10) (hd : d ≤ 6) (ha : a < W * H) (hb : b < W * H) (hn : 1 ≤ n ∧ n ≤ 4) (hk : kd ≤ 4) :
    ∀ w A μ fu f, A + w ≤ 4 ^ d → (∀ i, i < w → wayOk W H br d (A + i) a (fun j => decide (j = a)) = none) → MG W H S br fre but μ → ∃ μ', Scr μ' μ ∧ f_X12_findWay_L16 K6 (nI kd) (nI a) (nI b) (nI n) but (nI d) (fu + w) μ f (nI A) = f_X12_findWay_L16 K6 (nI kd) (nI a) (nI b) (nI n) but (nI d) fu μ' f (nI (A + w)) := by
  intro w
  induction w with
  | zero => intro A μ fu f h1 h2 hg; exact ⟨μ, Scr.rf μ, rfl⟩
  | succ w ih =>
    intro A μ fu f h1 h2 hg
    have h0 := h2 0 (by omega)
    rw [Nat.add_zero] at h0
    rcases code_step (b := b) hw hS hd (show A < 4 ^ d by omega) ha hb hn hk hg with ⟨-, μ1, q1, q2⟩ | ⟨ls, z, -⟩
    · obtain ⟨μ2, g1, g2⟩ := ih (A + 1) μ1 fu f (by omega) (fun i hi => by rw [show A + 1 + i = A + (i + 1) by omega]; exact h2 (i + 1) (by omega)) (hg.scr q1)
      refine ⟨μ2, g1.tr q1, ?_⟩
      rw [show A + (w + 1) = A + 1 + w by omega, ← g2]
      exact q2 K6 _ f
    · rw [h0] at z; cases z
/-- what the reference does over a stretch -/
def SR (K6 : St → Int32 → Int32 → Option (St × Int32)) (kd a b n : Nat) (but : Int32) (d : Nat) (A w : Nat) (μ : St) (r : Option (Nat × List Nat)) (me : Bool) (pre : List Nat) : Prop :=
  ∀ fu f, (r = none ∧ ∃ μ', Scr μ' μ ∧ f_X12_findWay_L16 K6 (nI kd) (nI a) (nI b) (nI n) but (nI d) (fu + w) μ (bz f) (nI A) = f_X12_findWay_L16 K6 (nI kd) (nI a) (nI b) (nI n) but (nI d) fu μ' (bz (f || me)) (nI (A + w))) ∨
    ∃ x ls μ', r = some (x, ls) ∧ Scr μ' μ ∧ f_X12_findWay_L16 K6 (nI kd) (nI a) (nI b) (nI n) but (nI d) (fu + w) μ (bz f) (nI A) = some (μ', nI x) ∧ μ'.1 0 0 45 = nI d ∧ μ'.1 46 0 0 = 6 * nI a ∧ (∀ i, i < d → μ'.1 46 0 (1 + i) = nI ((pre ++ ls).getD i 0)) ∧ μ'.1 46 0 (d + 1) = 6 * nI b + 1
theorem map_some_ne {α β : Type} {f : α → β} {o : Option α} {y : β} (h : o.map f = some y) : ∃ x, o = some x ∧ f x = y := by
  cases o with
  | none => cases h
  | some x => exact ⟨x, rfl, by injection h⟩
theorem stretch {W H S d a b kd n : Nat} {br : Nat → Int32} {fre : Nat → Nat → Bool} {but : Int32} {K6 : St → Int32 → Int32 → Option (St × Int32)} (hw : okWHS W H S) (hS : 4 ≤ S ∧ S ≤ 10) (hd : d ≤ 6) (ha : a < W * H) (hb : b < W * H) (hn : 1 ≤ n ∧ n ≤ 4) (hk : kd ≤ 4) :
    ∀ m c a1 P pre μ, (c + 1) * 4 ^ m ≤ 4 ^ d → (∀ r, r < 4 ^ m → wayOk W H br d (c * 4 ^ m + r) a (fun j => decide (j = a)) = (wayOk W H br m r a1 P).map (fun z => (z.1, pre ++ z.2))) → MG W H S br fre but μ → SR K6 kd a b n but d (c * 4 ^ m) (4 ^ m) μ (resW W H br b m a1 P (fun ls => tst fre S kd n a b (pre ++ ls))) (metW W H br b m a1 P) pre := by
  intro m
  induction m with
  | zero =>
    intro c a1 P pre μ h1 h2 hg
    have er : resW W H br b 0 a1 P (fun ls => tst fre S kd n a b (pre ++ ls)) = (if a1 = b ∧ tst fre S kd n a b pre ≠ 0 then some (tst fre S kd n a b pre, []) else none) := by
      have e0 : tst fre S kd n a b (pre ++ []) = tst fre S kd n a b pre := congrArg _ (List.append_nil pre)
      show (if a1 = b ∧ tst fre S kd n a b (pre ++ []) ≠ 0 then some (tst fre S kd n a b (pre ++ []), ([] : List Nat)) else none) = _
      rw [e0]
    have em : metW W H br b 0 a1 P = decide (a1 = b) := rfl
    rw [er, em]
    generalize ht : tst fre S kd n a b pre = x
    intro fu f
    have h2' := h2 0 (by decide)
    have e1 : wayOk W H br d c a (fun j => decide (j = a)) = some (a1, pre) := by
      have : wayOk W H br d (c * 4 ^ 0 + 0) a (fun j => decide (j = a)) = some (a1, pre ++ []) := h2'
      rw [Nat.pow_zero, Nat.mul_one, Nat.add_zero, List.append_nil] at this
      exact this
    rw [Nat.pow_zero, Nat.mul_one]
    rw [Nat.pow_zero, Nat.mul_one] at h1
    rcases code_step (b := b) (kd := kd) (n := n) hw hS hd (show c < 4 ^ d by omega) ha hb hn hk hg with ⟨z, μ1, q1, q2⟩ | ⟨ls, z, y⟩
    · have ne : a1 ≠ b := fun y => z pre (by rw [e1, y])
      left
      refine ⟨if_neg (fun y => ne y.1), μ1, q1, ?_⟩
      rw [decide_eq_false ne, Bool.or_false]
      exact q2 K6 _ _
    · rw [e1] at z
      injection z with z
      have z1 : a1 = b := congrArg Prod.fst z
      have z2 : pre = ls := congrArg Prod.snd z
      subst z1 z2
      rw [ht] at y
      rcases y with ⟨t0, μ1, q1, q2⟩ | ⟨t0, μ1, q1, q2, q3, q4, q5, q6⟩
      · left
        refine ⟨if_neg (fun y => y.2 t0), μ1, q1, ?_⟩
        rw [decide_eq_true rfl, Bool.or_true]
        exact q2 K6 _ _
      · right
        refine ⟨_, [], μ1, if_pos ⟨rfl, t0⟩, q1, q2 K6 _ _, q3, q4, fun i hi => ?_, q6⟩
        rw [List.append_nil]
        exact q5 i hi
  | succ m ih =>
    intro c a1 P pre μ h1 h2 hg
    have p4 : 0 < 4 ^ m := Nat.pow_pos (by decide)
    have e4 : 4 ^ (m + 1) = 4 * 4 ^ m := by rw [Nat.pow_succ, Nat.mul_comm]
    -- one port
    have port : ∀ q μ, q < 4 → MG W H S br fre but μ → SR K6 kd a b n but d ((4 * c + q) * 4 ^ m) (4 ^ m) μ (if okL W H br P (6 * a1 + (2 + q)) then (resW W H br b m (nxL W H (6 * a1 + (2 + q))) (addP P (nxL W H (6 * a1 + (2 + q)))) (fun ls => tst fre S kd n a b (pre ++ ((6 * a1 + (2 + q)) :: ls)))).map (fun z => (z.1, (6 * a1 + (2 + q)) :: z.2)) else none) (okL W H br P (6 * a1 + (2 + q)) && metW W H br b m (nxL W H (6 * a1 + (2 + q))) (addP P (nxL W H (6 * a1 + (2 + q))))) pre := by
      intro q μ hq hg
      have hin : (4 * c + q + 1) * 4 ^ m ≤ 4 ^ d := by
        refine Nat.le_trans ?_ h1
        rw [e4, ← Nat.mul_assoc]
        exact Nat.mul_le_mul_right _ (by omega)
      have cd : ∀ r, r < 4 ^ m → wayOk W H br d ((4 * c + q) * 4 ^ m + r) a (fun j => decide (j = a)) = (if okL W H br P (6 * a1 + (2 + q)) then (wayOk W H br m r (nxL W H (6 * a1 + (2 + q))) (addP P (nxL W H (6 * a1 + (2 + q))))).map (fun z => (z.1, (6 * a1 + (2 + q)) :: z.2)) else none).map (fun z => (z.1, pre ++ z.2)) := by
        intro r hr
        have := h2 (q * 4 ^ m + r) (by
          rw [e4]
          have : q * 4 ^ m + 4 ^ m ≤ 4 * 4 ^ m := by rw [← Nat.succ_mul]; exact Nat.mul_le_mul_right _ (by omega)
          omega)
        rw [show (4 * c + q) * 4 ^ m + r = c * 4 ^ (m + 1) + (q * 4 ^ m + r) by rw [e4, Nat.add_mul, ← Nat.mul_assoc, Nat.mul_comm 4 c, Nat.add_assoc], this]
        have d1 : (q * 4 ^ m + r) / 4 ^ m = q := by rw [Nat.add_comm, Nat.add_mul_div_right _ _ p4, Nat.div_eq_of_lt hr, Nat.zero_add]
        have d2 : (q * 4 ^ m + r) % 4 ^ m = r := by rw [Nat.add_comm, Nat.add_mul_mod_self_right, Nat.mod_eq_of_lt hr]
        show (if okL W H br P (6 * a1 + (2 + (q * 4 ^ m + r) / 4 ^ m)) then _ else _ : Option (Nat × List Nat)).map _ = _
        rw [d1, d2]
      cases ho : okL W H br P (6 * a1 + (2 + q))
      · rw [if_neg (by decide), Bool.false_and]
        intro fu f
        left
        obtain ⟨μ', g1, g2⟩ := stretch_dead (br := br) (b := b) (K6 := K6) hw hS hd ha hb hn hk (4 ^ m) ((4 * c + q) * 4 ^ m) μ fu (bz f) (by rw [← Nat.succ_mul]; exact hin) (fun i hi => by rw [cd i hi, ho]; rfl) hg
        rw [Bool.or_false]
        exact ⟨rfl, μ', g1, g2⟩
      · rw [if_pos rfl, Bool.true_and]
        intro fu f
        have i := ih (4 * c + q) (nxL W H (6 * a1 + (2 + q))) (addP P (nxL W H (6 * a1 + (2 + q)))) (pre ++ [6 * a1 + (2 + q)]) μ hin (fun r hr => by
          rw [cd r hr, ho, if_pos rfl, Option.map_map]
          congr 1
          funext z
          show (z.1, pre ++ ((6 * a1 + (2 + q)) :: z.2)) = (z.1, pre ++ [6 * a1 + (2 + q)] ++ z.2)
          rw [List.append_assoc]
          rfl) hg fu f
        have et : (fun ls => tst fre S kd n a b (pre ++ [6 * a1 + (2 + q)] ++ ls)) = (fun ls => tst fre S kd n a b (pre ++ ((6 * a1 + (2 + q)) :: ls))) := by
          funext ls
          rw [List.append_assoc]
          rfl
        rw [et] at i
        rcases i with ⟨z, μ', g1, g2⟩ | ⟨x, ls, μ', z, g1, g2, g3, g4, g5, g6⟩
        · left
          exact ⟨by rw [z]; rfl, μ', g1, g2⟩
        · right
          refine ⟨x, (6 * a1 + (2 + q)) :: ls, μ', by rw [z]; rfl, g1, g2, g3, g4, fun i hi => ?_, g6⟩
          have := g5 i hi
          rw [List.append_assoc] at this
          exact this
    -- the ports from q on
    have ports : ∀ w q μ, q + w = 4 → MG W H S br fre but μ → SR K6 kd a b n but d ((4 * c + q) * 4 ^ m) (w * 4 ^ m) μ ((List.range' q w).findSome? (fun q => if okL W H br P (6 * a1 + (2 + q)) then (resW W H br b m (nxL W H (6 * a1 + (2 + q))) (addP P (nxL W H (6 * a1 + (2 + q)))) (fun ls => tst fre S kd n a b (pre ++ ((6 * a1 + (2 + q)) :: ls)))).map (fun z => (z.1, (6 * a1 + (2 + q)) :: z.2)) else none)) ((List.range' q w).any (fun q => okL W H br P (6 * a1 + (2 + q)) && metW W H br b m (nxL W H (6 * a1 + (2 + q))) (addP P (nxL W H (6 * a1 + (2 + q)))))) pre := by
      intro w
      induction w with
      | zero =>
        intro q μ h3 hg fu f
        left
        refine ⟨rfl, μ, Scr.rf μ, ?_⟩
        rw [Nat.zero_mul]
        show _ = f_X12_findWay_L16 K6 (nI kd) (nI a) (nI b) (nI n) but (nI d) fu μ (bz (f || false)) (nI ((4 * c + q) * 4 ^ m + 0))
        rw [Bool.or_false]
        rfl
      | succ w ihw =>
        intro q μ h3 hg fu f
        rw [List.range'_succ, List.findSome?_cons, List.any_cons]
        have hfu : fu + (w + 1) * 4 ^ m = fu + w * 4 ^ m + 4 ^ m := by rw [Nat.succ_mul, Nat.add_assoc]
        rw [hfu]
        rcases port q μ (by omega) hg (fu + w * 4 ^ m) f with ⟨z, μ1, g1, g2⟩ | ⟨x, ls, μ1, z, g⟩
        · rw [z, g2]
          have hA : (4 * c + q) * 4 ^ m + 4 ^ m = (4 * c + (q + 1)) * 4 ^ m := by rw [← Nat.succ_mul]; rfl
          rw [hA]
          rcases ihw (q + 1) μ1 (by omega) (hg.scr g1) fu (f || (okL W H br P (6 * a1 + (2 + q)) && metW W H br b m (nxL W H (6 * a1 + (2 + q))) (addP P (nxL W H (6 * a1 + (2 + q)))))) with ⟨y, μ2, k1, k2⟩ | ⟨x, ls, μ2, y, k1, k2⟩
          · left
            refine ⟨y, μ2, k1.tr g1, ?_⟩
            rw [k2, ← Bool.or_assoc]
            congr 2
            rw [← hA, Nat.add_mul w 1, Nat.one_mul, Nat.add_assoc, Nat.add_comm (4 ^ m)]
          · right
            exact ⟨x, ls, μ2, y, k1.tr g1, k2⟩
        · right
          rw [z]
          exact ⟨x, ls, μ1, rfl, g⟩
    have fin := ports 4 0 μ rfl hg
    rw [Nat.add_zero, show 4 * c * 4 ^ m = c * 4 ^ (m + 1) by rw [e4, ← Nat.mul_assoc, Nat.mul_comm 4 c], ← e4] at fin
    exact fin
