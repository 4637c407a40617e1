/-! one row of ports in the reference's search -/
theorem isWay_eq {W H S d b R a : Nat} {br : Nat → Int32} {μ : St} (hw : okWHS W H S) (hd : d ≤ 6) (hR : R < 4 ^ d) (ha : a < W * H) (e0 : μ.1 0 0 0 = nI W) (e1 : μ.1 0 0 1 = nI H) (e5 : ∀ l, l < 54 → μ.1 5 0 l = br l) :
    (wayOk W H br d R a (fun j => decide (j = a)) = none ∧ ∃ μ', f_X12_isWay μ (nI a) (nI b) (nI d) (nI R) = some (μ', 0) ∧ Scr μ' μ) ∨
    (∃ e ls, e < W * H ∧ wayOk W H br d R a (fun j => decide (j = a)) = some (e, ls) ∧ ls.length = d ∧ ∃ μ', f_X12_isWay μ (nI a) (nI b) (nI d) (nI R) = some (μ', if nI e = nI b then 1 else 0) ∧ Scr μ' μ ∧ μ'.1 0 0 45 = nI d ∧ μ'.1 46 0 0 = 6 * nI a ∧ (∀ i, i < d → μ'.1 46 0 (1 + i) = nI (ls.getD i 0) ∧ ls.getD i 0 < 54) ∧ μ'.1 46 0 (d + 1) = 6 * nI b + 1) := by
  have h9 := hw.WH.2.2
  have pre : ∀ m t fu μ2, t + m = 9 → m < fu → Scr μ2 μ → (∀ j, j < t → μ2.1 47 0 j = bz (decide (j = a))) → ∃ μ3, f_X12_isWay_L3 (nI a) (nI b) (nI d) (nI R) fu μ2 (nI t) = f_X12_isWay_L53 (nI b) (nI d) (nI R) FU (si μ3 46 0 0 (6 * nI a)) (nI a) 1 0 ∧ Scr μ3 μ ∧ ∀ j, j < 9 → μ3.1 47 0 j = bz (decide (j = a)) := by
    intro m
    induction m with
    | zero =>
      intro t fu μ2 h1 h2 hs h47
      obtain ⟨fu, rfl⟩ : ∃ j, fu = j + 1 := ⟨fu - 1, by omega⟩
      refine ⟨μ2, ?_, hs, fun j hj => h47 j (by omega)⟩
      show f_X12_isWay_L3b (nI a) (nI b) (nI d) (nI R) (f_X12_isWay_L3 (nI a) (nI b) (nI d) (nI R) fu) μ2 (nI t) = _
      unfold f_X12_isWay_L3b
      rw [if_neg (nltL 9 9 rfl (by omega) (by omega)), bnd_eq]
    | succ m ih =>
      intro t fu μ2 h1 h2 hs h47
      obtain ⟨fu, rfl⟩ : ∃ j, fu = j + 1 := ⟨fu - 1, by omega⟩
      obtain ⟨μ3, g1, g2⟩ := ih (t + 1) fu (si μ2 47 0 t (bz (decide (t = a)))) (by omega) (by omega) hs.s47 (fun j hj => by
        by_cases y : j = t
        · subst y; rw [si_eq]
        · rw [si_j y]; exact h47 j (by omega))
      refine ⟨μ3, Eq.trans ?_ g1, g2⟩
      show f_X12_isWay_L3b (nI a) (nI b) (nI d) (nI R) (f_X12_isWay_L3 (nI a) (nI b) (nI d) (nI R) fu) μ2 (nI t) = _
      unfold f_X12_isWay_L3b chk
      rw [if_pos (ltL 9 9 rfl (by omega) (by decide)), if_pos (inbL (show t < 9 by omega) (by decide)), clL (by omega), bnd_eq, if_pos (inbL (show t < 9 by omega) (by decide)), bnd_eq, nI_1]
      by_cases y : t = a
      · rw [if_pos (by rw [y]), decide_eq_true y]; rfl
      · rw [if_neg (fun z => y (nI_inj (by omega) (by omega) z)), decide_eq_false y]; rfl
  obtain ⟨μ3, g1, g2, g3⟩ := pre 9 0 FU μ (by omega) (FU_lt (by omega)) (Scr.rf μ) (fun j hj => by omega)
  have hm := way_go (b := b) (br := br) hw hd hR d 0 a (fun j => decide (j = a)) (si μ3 46 0 0 (6 * nI a)) FU (by omega) (FU_lt (by omega)) ha (by rw [si_k (by decide), g2.2 0 (by decide)]; exact e0) (by rw [si_k (by decide), g2.2 1 (by decide)]; exact e1) (fun l hl => by rw [si_k (by decide), g2.1 5 (by decide) (by decide) (by decide)]; exact e5 l hl) (fun j hj => by rw [si_k (by decide)]; exact g3 j hj)
  rw [Nat.mod_eq_of_lt hR] at hm
  have g0 : f_X12_isWay μ (nI a) (nI b) (nI d) (nI R) = _ := g1
  rcases hm with ⟨w, μ', q1, q2⟩ | ⟨e, ls, he, w, hls, μ', q1, q2, q3, q4, q5, q6⟩
  · left
    exact ⟨w, μ', g0.trans q1, q2.tr g2.s46⟩
  · right
    refine ⟨e, ls, he, w, hls, μ', g0.trans q1, q2.tr g2.s46, q3, by rw [q4 0 (Nat.le_refl _), si_eq], fun i hi => ?_, q6⟩
    have := q5 i hi
    rw [show 0 + 1 + i = 1 + i by omega] at this
    exact this
def fset (fre : Nat → Nat → Bool) (S l p : Nat) : Nat := bitsOf (fun t => fre l ((t + p) % S)) S
def facc (fre : Nat → Nat → Bool) (S : Nat) : Nat → Nat → List Nat → Nat
  | f, _, [] => f
  | f, p, l :: ls => facc fre S (f &&& fset fre S l p) (p + 1) ls
def allF (fre : Nat → Nat → Bool) (S t : Nat) : Nat → List Nat → Bool
  | _, [] => true
  | p, l :: ls => fre l ((t + p) % S) && allF fre S t (p + 1) ls
theorem facc_bit {fre : Nat → Nat → Bool} {S t : Nat} (ht : t < S) : ∀ ls f p, (facc fre S f p ls).testBit t = (f.testBit t && allF fre S t p ls) := by
  intro ls
  induction ls with
  | nil => intro f p; show f.testBit t = _; unfold allF; rw [Bool.and_true]
  | cons l ls ih =>
    intro f p
    show (facc fre S (f &&& fset fre S l p) (p + 1) ls).testBit t = _
    rw [ih, Nat.testBit_and]
    unfold fset
    rw [bitsOf_bit, decide_eq_true ht, Bool.true_and, Bool.and_assoc]
    rfl
theorem facc_le {fre : Nat → Nat → Bool} {S : Nat} : ∀ ls f p, facc fre S f p ls ≤ f := by
  intro ls
  induction ls with
  | nil => intro f p; exact Nat.le_refl _
  | cons l ls ih => intro f p; exact Nat.le_trans (ih _ _) Nat.and_le_left
theorem allF_range {fre : Nat → Nat → Bool} {S t : Nat} : ∀ ls p, (List.range ls.length).all (fun k => fre (ls.getD k 0) ((t + (p + k)) % S)) = allF fre S t p ls := by
  intro ls
  induction ls with
  | nil => intro p; rfl
  | cons l ls ih =>
    intro p
    rw [List.length_cons, List.range_succ_eq_map, List.all_cons, List.all_map]
    unfold allF
    rw [← ih (p + 1)]
    congr 1
    apply List.all_congr rfl
    intro k
    show fre ((l :: ls).getD (k + 1) 0) ((t + (p + (k + 1))) % S) = _
    rw [List.getD_cons_succ, show p + (k + 1) = p + 1 + k by omega]
theorem bits_eq {S x y : Nat} (hx : x < 2 ^ S) (hy : y < 2 ^ S) (h : ∀ t, t < S → x.testBit t = y.testBit t) : x = y := by
  apply Nat.eq_of_testBit_eq
  intro i
  by_cases hi : i < S
  · exact h i hi
  · have hp : 2 ^ S ≤ 2 ^ i := Nat.pow_le_pow_right (by decide) (by omega)
    rw [Nat.testBit_lt_two_pow (Nat.lt_of_lt_of_le hx hp), Nat.testBit_lt_two_pow (Nat.lt_of_lt_of_le hy hp)]
theorem fset_lt {fre : Nat → Nat → Bool} {S l p : Nat} : fset fre S l p < 2 ^ S := bitsOf_lt _ _
def chN (kd n S fr : Nat) : Nat := nN ((f_X7_choose (nI kd) (nI fr) (nI n) (nI S)).getD 0)
theorem chN_eq {μ : St} {S fr n kd : Nat} (hS : 4 ≤ S ∧ S ≤ 10) (eS : μ.1 0 0 2 = nI S) (hfr : fr < 2 ^ S) (hn : 1 ≤ n ∧ n ≤ 4) (hk : kd ≤ 4) : chN kd n S fr < 2 ^ S ∧ f_X7_choose (nI kd) (nI fr) (nI n) (nI S) = some (nI (chN kd n S fr)) ∧ f_X12_startsFor μ (nI kd) (nI n) (nI fr) = some (if chN kd n S fr = 0 then -1 else nI (chN kd n S fr)) ∧ (chN kd n S fr ≠ 0 → chN kd n S fr &&& fr = chN kd n S fr ∧ nb (chN kd n S fr) = n) := by
  obtain ⟨x, h1, h2, h3, h4⟩ := choose_both (μ := μ) hS eS hfr hn hk
  have p2 : 2 ^ S ≤ 1024 := Nat.pow_le_pow_right (n := 2) (by decide) hS.2
  have e : chN kd n S fr = x := by
    unfold chN nN
    rw [h2]
    exact clL (by omega)
  rw [e]
  exact ⟨h1, h2, h3, h4⟩
/-- the reference's state is fit for the search -/
def MG (W H S : Nat) (br : Nat → Int32) (fre : Nat → Nat → Bool) (but : Int32) (μ : St) : Prop := Mok S μ ∧ μ.1 0 0 0 = nI W ∧ μ.1 0 0 1 = nI H ∧ (∀ l, l < 54 → μ.1 5 0 l = br l) ∧ ∀ l s, l < 54 → s < S → (ownO μ S but l s).isNone = fre l s
theorem Scr.MA {μ' μ : St} (h : Scr μ' μ) : MA μ' μ 1 45 := fun a h1 h2 => h.1 a (by omega) (by omega) (by omega)
theorem Scr.own {μ' μ : St} (h : Scr μ' μ) (S : Nat) (but : Int32) (l s : Nat) : ownO μ' S but l s = ownO μ S but l s := by
  have m := h.MA.w (c := 9) (d := 17) (by omega) (by omega)
  unfold ownO hasB hb1
  simp only [hpN.cg m, stN.cg m]
  rw [m 9 (by omega) (by omega), m 16 (by omega) (by omega)]
theorem MG.scr {W H S : Nat} {br : Nat → Int32} {fre : Nat → Nat → Bool} {but : Int32} {μ μ' : St} (h : MG W H S br fre but μ) (hs : Scr μ' μ) : MG W H S br fre but μ' := by
  obtain ⟨⟨a1, a2⟩, h2, h3, h4, h5⟩ := h
  have m := hs.MA.w (c := 9) (d := 17) (by omega) (by omega)
  refine ⟨⟨(hs.2 2 (by decide)).trans a1, fun c hc => ?_⟩, (hs.2 0 (by decide)).trans h2, (hs.2 1 (by decide)).trans h3, fun l hl => ?_, fun l s hl hs' => ?_⟩
  · rw [live.cg m, m 9 (by omega) (by omega), m 15 (by omega) (by omega), m 17 (by omega) (by omega)]
    exact a2 c hc
  · rw [hs.1 5 (by decide) (by decide) (by decide)]
    exact h4 l hl
  · rw [hs.own]
    exact h5 l s hl hs'
theorem getD_app1 {l1 l2 : List Nat} {k : Nat} (h : k < l1.length) : (l1 ++ l2).getD k 0 = l1.getD k 0 := by
  rw [List.getD_eq_getElem?_getD, List.getD_eq_getElem?_getD, List.getElem?_append_left h]
theorem getD_app2 {l1 l2 : List Nat} {k : Nat} (h : l1.length ≤ k) : (l1 ++ l2).getD k 0 = l2.getD (k - l1.length) 0 := by
  rw [List.getD_eq_getElem?_getD, List.getD_eq_getElem?_getD, List.getElem?_append_right h]
/-- the starts by a way -/
def tst (fre : Nat → Nat → Bool) (S kd n a b : Nat) (ls : List Nat) : Nat := chN kd n S (facc fre S (fset fre S (6 * a) 0) 1 (ls ++ [6 * b + 1]))
theorem free_way {W H S d a b : Nat} {br : Nat → Int32} {fre : Nat → Nat → Bool} {but : Int32} {μ : St} {ls : List Nat} (hg : MG W H S br fre but μ) (hS : 0 < S ∧ S ≤ 10) (hd : d ≤ 6) (ha : a < 9) (hb : b < 9) (hls : ls.length = d) (e45 : μ.1 0 0 45 = nI d) (e0 : μ.1 46 0 0 = 6 * nI a) (ei : ∀ i, i < d → μ.1 46 0 (1 + i) = nI (ls.getD i 0) ∧ ls.getD i 0 < 54) (e1 : μ.1 46 0 (d + 1) = 6 * nI b + 1) : f_X12_freeStarts μ but = some (nI (facc fre S (fset fre S (6 * a) 0) 1 (ls ++ [6 * b + 1]))) := by
  have hlen : ((6 * a) :: (ls ++ [6 * b + 1])).length = d + 2 := by simp [hls]
  have rt : ∀ k, k < d + 2 → μ.1 46 0 k = nI (((6 * a) :: (ls ++ [6 * b + 1])).getD k 0) ∧ ((6 * a) :: (ls ++ [6 * b + 1])).getD k 0 < 54 := by
    intro k hk
    cases k with
    | zero => exact ⟨by rw [e0, show (6 : Int32) = nI 6 from rfl, nI_mul]; rfl, show 6 * a < 54 by omega⟩
    | succ k =>
      rw [List.getD_cons_succ]
      by_cases q : k < d
      · rw [getD_app1 (by omega), show k + 1 = 1 + k by omega]
        exact ei k q
      · have : k = d := by omega
        subst this
        rw [getD_app2 (by omega), hls, Nat.sub_self, e1]
        exact ⟨by rw [show (6 : Int32) = nI 6 from rfl, nI_mul, nI_1]; rfl, show 6 * b + 1 < 54 by omega⟩
  rw [freeM (rt := fun k => ((6 * a) :: (ls ++ [6 * b + 1])).getD k 0) hg.1 hS hd e45 rt]
  congr 2
  refine bits_eq (bitsOf_lt _ _) (Nat.lt_of_le_of_lt (facc_le _ _ _) fset_lt) (fun t ht => ?_)
  rw [bitsOf_bit, decide_eq_true ht, Bool.true_and, facc_bit ht]
  have h1 := allF_range (fre := fre) (S := S) (t := t) ((6 * a) :: (ls ++ [6 * b + 1])) 0
  rw [hlen] at h1
  have h2 : (List.range (d + 2)).all (fun k => (ownO μ S but (((6 * a) :: (ls ++ [6 * b + 1])).getD k 0) ((t + k) % S)).isNone) = (List.range (d + 2)).all (fun k => fre (((6 * a) :: (ls ++ [6 * b + 1])).getD k 0) ((t + (0 + k)) % S)) := by
    rw [Bool.eq_iff_iff, List.all_eq_true, List.all_eq_true]
    have key : ∀ k, k ∈ List.range (d + 2) → (ownO μ S but (((6 * a) :: (ls ++ [6 * b + 1])).getD k 0) ((t + k) % S)).isNone = fre (((6 * a) :: (ls ++ [6 * b + 1])).getD k 0) ((t + (0 + k)) % S) := by
      intro k hk
      rw [Nat.zero_add]
      exact hg.2.2.2.2 _ _ (rt k (List.mem_range.mp hk)).2 (Nat.mod_lt _ hS.1)
    exact ⟨fun z k hk => by rw [← key k hk]; exact z k hk, fun z k hk => by rw [key k hk]; exact z k hk⟩
  rw [h2, h1]
  unfold fset
  rw [bitsOf_bit, decide_eq_true ht, Bool.true_and]
  rfl
