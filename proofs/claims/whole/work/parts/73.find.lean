/-! the search, on both sides -/
def XT (σ' σ : St) : Prop := (∀ a, a ≠ 6 → a ≠ 19 → a ≠ 20 → σ'.1 a = σ.1 a) ∧ σ'.2 = σ.2
theorem XS.xt {σ' σ : St} (h : XS σ' σ) : XT σ' σ := ⟨h.1, h.2.2⟩
theorem XT.tr {a b c : St} (h1 : XT a b) (h2 : XT b c) : XT a c := ⟨fun x p q r => (h1.1 x p q r).trans (h2.1 x p q r), h1.2.trans h2.2⟩
theorem XT.s6 {σ' σ : St} (h : XT σ' σ) {i : Nat} {v : Int32} : XT (si σ' 6 0 i v) σ := ⟨fun x p q r => (si_k p).trans (h.1 x p q r), h.2⟩
theorem XT.s20 {σ' σ : St} (h : XT σ' σ) {i : Nat} {v : Int32} : XT (si σ' 20 0 i v) σ := ⟨fun x p q r => (si_k r).trans (h.1 x p q r), h.2⟩
/-- a way was found: d hops by the links ls, with the starts x -/
def FW (W H S : Nat) (br : Nat → Int32) (fre : Nat → Nat → Bool) (kd a b n : Nat) (σ' μ' : St) (d x : Nat) (ls : List Nat) : Prop :=
  1 ≤ d ∧ d ≤ 6 ∧ x ≠ 0 ∧ x < 1024 ∧ resW W H br b d a (fun j => decide (j = a)) (tst fre S kd n a b) = some (x, ls) ∧ σ'.1 6 0 6 = nI d ∧ σ'.1 6 0 7 = nI x ∧ (∀ i, i < d → σ'.1 19 0 i = nI (ls.getD i 0)) ∧ μ'.1 0 0 45 = nI d ∧ μ'.1 46 0 0 = 6 * nI a ∧ (∀ i, i < d → μ'.1 46 0 (1 + i) = nI (ls.getD i 0)) ∧ μ'.1 46 0 (d + 1) = 6 * nI b + 1
theorem find_loop {W H S : Nat} {br : Nat → Int32} {fre : Nat → Nat → Bool} {kd a b n : Nat} {but : Int32} {σ μ : St} (hw : okWHS W H S) (hS : 4 ≤ S ∧ S ≤ 10) (ha : a < W * H) (hb : b < W * H) (hn : 1 ≤ n ∧ n ≤ 4) (hk : kd ≤ 4) (hg : MG W H S br fre but μ) (s1 : σ.1 1 0 1 = nI S) (s2 : ∀ l, l < 54 → σ.1 11 1 l = endV W H l) (s3 : ∀ l, l < 54 → σ.1 14 0 l = br l) (s4 : ∀ l s, l < 54 → s < S → decide (σ.1 16 0 (10 * l + s) = -1) = fre l s) :
    ∀ w d σ1 μ1 fx fm f, d + w = 7 → 1 ≤ d → w < fx → w < fm → XT σ1 σ → σ1.1 6 0 3 = nI kd → σ1.1 6 0 4 = nI b → σ1.1 6 0 5 = nI n → σ1.1 6 0 7 = 0 → σ1.1 6 0 8 = bz f → (kd = 2 ∨ f = false) → (∀ i, i < 9 → σ1.1 20 0 i = bz (decide (i = a))) → Scr μ1 μ →
    ∃ σ' μ', XT σ' σ ∧ (∀ i, i < 9 → σ'.1 20 0 i = 0) ∧ Scr μ' μ ∧
      ((f_X6_find_L48 (nI a) fx σ1 (nI d) = some (σ', 0) ∧ f_X12_findWay_L6 (nI kd) (nI a) (nI b) (nI n) but fm μ1 (bz f) (nI d) = some (μ', -1)) ∨
       ∃ d' x ls, f_X6_find_L48 (nI a) fx σ1 (nI d) = some (σ', 1) ∧ f_X12_findWay_L6 (nI kd) (nI a) (nI b) (nI n) but fm μ1 (bz f) (nI d) = some (μ', nI x) ∧ FW W H S br fre kd a b n σ' μ' d' x ls) := by
  have h9 := hw.WH.2.2
  have ia : inb (nI a) 9 := inbL (by omega) (by decide)
  have ca : Int32.toNatClampNeg (nI a) = a := clL (by omega)
  have clr : ∀ σ1 : St, (∀ i, i < 9 → σ1.1 20 0 i = bz (decide (i = a))) → ∀ i, i < 9 → (si σ1 20 0 a 0).1 20 0 i = 0 := by
    intro σ1 h i hi
    by_cases y : i = a
    · subst y; exact si_eq
    · rw [si_j y, h i hi, decide_eq_false y]; rfl
  have k2 : nI kd = 2 ↔ kd = 2 := ⟨fun z => nI_inj (b := 2) (by omega) (by decide) z, fun z => by rw [z]; rfl⟩
  intro w
  induction w with
  | zero =>
    intro d σ1 μ1 fx fm f h1 h1' h2 h3 t1 t2 t3 t4 t5 t6 t7 t8 t9
    obtain ⟨fx, rfl⟩ : ∃ i, fx = i + 1 := ⟨fx - 1, by omega⟩
    obtain ⟨fm, rfl⟩ : ∃ i, fm = i + 1 := ⟨fm - 1, by omega⟩
    have ed : d = 7 := by omega
    subst ed
    refine ⟨si σ1 20 0 a 0, μ1, t1.s20, clr σ1 t8, t9, Or.inl ⟨?_, rfl⟩⟩
    show f_X6_find_L48b (nI a) (f_X6_find_L48 (nI a) fx) σ1 (nI 7) = _
    unfold f_X6_find_L48b chk
    rw [if_neg (show ¬ nI 7 ≤ 6 by decide), if_pos ia, ca, bnd_eq, si_k (by decide), t5, if_pos rfl]
  | succ w ih =>
    intro d σ1 μ1 fx fm f h1 h1' h2 h3 t1 t2 t3 t4 t5 t6 t7 t8 t9
    obtain ⟨fx, rfl⟩ : ∃ i, fx = i + 1 := ⟨fx - 1, by omega⟩
    obtain ⟨fm, rfl⟩ : ∃ i, fm = i + 1 := ⟨fm - 1, by omega⟩
    have hd : d ≤ 6 := by omega
    have p4 := p46 hd
    have d6 : nI d ≤ 6 := nI_le (b := 6) hd (by decide)
    have t1' : XT (si σ1 6 0 6 (nI d)) σ := t1.s6
    have hsc : SC W H S br fre kd b n d (si σ1 6 0 6 (nI d)) := by
      refine ⟨by rw [t1'.1 1 (by decide) (by decide) (by decide)]; exact s1, by rw [t1'.1 11 (by decide) (by decide) (by decide)]; exact s2, by rw [t1'.1 14 (by decide) (by decide) (by decide)]; exact s3, by rw [t1'.1 16 (by decide) (by decide) (by decide)]; exact s4, by rw [si_j (by decide)]; exact t2, by rw [si_j (by decide)]; exact t3, by rw [si_j (by decide)]; exact t4, si_eq⟩
    -- the class
    obtain ⟨σ2, g1, g2, g3, -, g5⟩ := walk_eq (br := br) (fre := fre) hw hS hd hb hn hk d 0 a (fun j => decide (j = a)) (fset fre S (6 * a) 0) (si σ1 6 0 6 (nI d)) (7 - d) (by omega) ha (decide_eq_true rfl) fset_lt hsc (by rw [si_j (by decide)]; exact t5) (fun i hi => by rw [si_k (by decide)]; exact t8 i hi)
    rw [show d + 1 + (7 - d) = 8 by omega] at g1
    have fx0 : f_X1_freeStarts (si σ1 6 0 6 (nI d)) (nI (6 * a)) (nI 0) = some (nI (fset fre S (6 * a) 0)) := freeX2 hsc.1 ⟨by omega, hS.2⟩ (by omega) (by decide) hsc.2.2.2.1
    have stepX : f_X6_find_L48 (nI a) (fx + 1) σ1 (nI d) = f_X6_find_L48 (nI a) fx σ2 (nI (d + 1)) := by
      show f_X6_find_L48b (nI a) (f_X6_find_L48 (nI a) fx) σ1 (nI d) = _
      generalize f_X6_find_L48 (nI a) fx = K
      unfold f_X6_find_L48b
      have bd : ((f_X11_linkOf (nI a) 0).bind fun r13 => (f_X1_freeStarts (si σ1 6 0 6 (nI d)) r13 0).bind fun r14 => (f_X6_walk 8 (si σ1 6 0 6 (nI d)) (nI a) 0 r14).bind fun σ16 => K σ16 (nI d + 1)) = K σ2 (nI (d + 1)) := by
        unfold f_X11_linkOf
        rw [Option.bind_some, show (6 : Int32) * nI a + 0 = nI (6 * a) from by rw [show (6 : Int32) = nI 6 from rfl, nI_mul]; exact nI_add _ 0, show f_X1_freeStarts (si σ1 6 0 6 (nI d)) (nI (6 * a)) 0 = some (nI (fset fre S (6 * a) 0)) from fx0, Option.bind_some, show f_X6_walk 8 (si σ1 6 0 6 (nI d)) (nI a) 0 (nI (fset fre S (6 * a) 0)) = some σ2 from g1, Option.bind_some, nI_1]
      rw [if_pos d6, t5, if_pos rfl, t2, bnd_eq, bd]
      by_cases y : kd = 2
      · rw [if_pos (k2.mpr y)]
      · rw [if_neg (fun z => y (k2.mp z))]
        rcases t7 with z | z
        · exact absurd z y
        · rw [t6, z, if_pos (show bz false = 0 from rfl)]
    have t20 : ∀ i, i < 9 → σ2.1 20 0 i = bz (decide (i = a)) := fun i hi => by rw [g3 i hi, si_k (by decide)]; exact t8 i hi
    have xt2 : XT σ2 σ := g2.xt.tr t1'
    have endX : ∀ fx, 0 < fx → (¬ kd = 2 ∧ ¬ σ2.1 6 0 8 = 0 ∨ ¬ σ2.1 6 0 7 = 0) → f_X6_find_L48 (nI a) fx σ2 (nI (d + 1)) = some (si σ2 20 0 a 0, if σ2.1 6 0 7 = 0 then 0 else 1) := by
      intro fx hfx hq
      obtain ⟨fx, rfl⟩ : ∃ i, fx = i + 1 := ⟨fx - 1, by omega⟩
      show f_X6_find_L48b (nI a) (f_X6_find_L48 (nI a) fx) σ2 (nI (d + 1)) = _
      generalize f_X6_find_L48 (nI a) fx = K
      have bd : chk (inb (nI a) 9) (bnd (si σ2 20 0 (Int32.toNatClampNeg (nI a)) 0) fun σ19 => if (σ19.1 6 0 7) = 0 then some (σ19, (0 : Int32)) else some (σ19, 1)) = some (si σ2 20 0 a 0, if σ2.1 6 0 7 = 0 then 0 else 1) := by
        unfold chk
        rw [if_pos ia, ca, bnd_eq, si_k (by decide)]
        split <;> rfl
      unfold f_X6_find_L48b
      rw [bd]
      split
      · split
        · rename_i q7
          rcases hq with ⟨q1, q2⟩ | q
          · rw [g2.2.1 3 (by decide), si_j (by decide), t2, if_neg (fun z => q1 (k2.mp z)), if_neg q2]
          · exact absurd q7 q
        · rfl
      · rfl
    -- the reference
    obtain ⟨fu, hfu, hfu0⟩ : ∃ fu, FU = fu + 4 ^ d ∧ 0 < fu := ⟨5000 - 4 ^ d, by show 5000 = _; omega, by omega⟩
    have stepM : f_X12_findWay_L6 (nI kd) (nI a) (nI b) (nI n) but (fm + 1) μ1 (bz f) (nI d) = f_X12_findWay_L16 (f_X12_findWay_L6 (nI kd) (nI a) (nI b) (nI n) but fm) (nI kd) (nI a) (nI b) (nI n) but (nI d) (fu + 4 ^ d) μ1 (bz f) (nI (0 * 4 ^ d)) := by
      show f_X12_findWay_L6b (nI kd) (nI a) (nI b) (nI n) but (f_X12_findWay_L6 (nI kd) (nI a) (nI b) (nI n) but fm) μ1 (bz f) (nI d) = _
      unfold f_X12_findWay_L6b
      rw [if_pos d6, hfu, Nat.zero_mul]
      rfl
    have st := stretch (br := br) (fre := fre) (but := but) (K6 := f_X12_findWay_L6 (nI kd) (nI a) (nI b) (nI n) but fm) hw hS hd ha hb hn hk d 0 a (fun j => decide (j = a)) [] μ1 (by rw [Nat.zero_add, Nat.one_mul]; exact Nat.le_refl _) (fun r hr => by
      rw [Nat.zero_mul, Nat.zero_add]
      cases wayOk W H br d r a (fun j => decide (j = a)) <;> rfl) (hg.scr t9) fu f
    have st' := st
    clear st
    rcases g5 with ⟨r1, r2, r3⟩ | ⟨x, ls, r1, r2, r2b, r3, r4⟩
    · rcases st' with ⟨-, μ2, m1, m2⟩ | ⟨x, ls, μ2, z, -⟩
      · rw [stepX]
        have r3' : σ2.1 6 0 8 = bz (f || metW W H br b d a (fun j => decide (j = a))) := by
          rw [r3, si_j (by decide), t6]
          cases f <;> cases metW W H br b d a (fun j => decide (j = a)) <;> rfl
        have m3 := stepM.trans m2
        rw [Nat.zero_mul, Nat.zero_add] at m3
        generalize (f || metW W H br b d a (fun j => decide (j = a))) = f2 at r3' m3
        have endM : f_X12_findWay_L16 (f_X12_findWay_L6 (nI kd) (nI a) (nI b) (nI n) but fm) (nI kd) (nI a) (nI b) (nI n) but (nI d) fu μ2 (bz f2) (nI (4 ^ d)) = if kd = 2 ∨ f2 = false then f_X12_findWay_L6 (nI kd) (nI a) (nI b) (nI n) but fm μ2 (bz f2) (nI (d + 1)) else some (μ2, -1) := by
          obtain ⟨fu, rfl⟩ : ∃ i, fu = i + 1 := ⟨fu - 1, by omega⟩
          show f_X12_findWay_L16b (f_X12_findWay_L6 (nI kd) (nI a) (nI b) (nI n) but fm) (nI kd) (nI a) (nI b) (nI n) but (nI d) (f_X12_findWay_L16 (f_X12_findWay_L6 (nI kd) (nI a) (nI b) (nI n) but fm) (nI kd) (nI a) (nI b) (nI n) but (nI d) fu) μ2 (bz f2) (nI (4 ^ d)) = _
          generalize f_X12_findWay_L16 (f_X12_findWay_L6 (nI kd) (nI a) (nI b) (nI n) but fm) (nI kd) (nI a) (nI b) (nI n) but (nI d) fu = K16
          generalize f_X12_findWay_L6 (nI kd) (nI a) (nI b) (nI n) but fm = K6
          unfold f_X12_findWay_L16b
          rw [ways_eq hd, Option.bind_some, if_neg (nI_nlt (Nat.le_refl _) (by omega)), nI_1]
          cases f2
          · rw [if_pos (show bz false = 0 from rfl), if_pos (Or.inr rfl)]
          · rw [if_neg (show ¬ bz true = 0 by decide)]
            by_cases y : kd = 2
            · rw [if_pos (k2.mpr y), if_pos (Or.inl y)]
            · rw [if_neg (fun z => y (k2.mp z)), if_neg (fun z => z.elim y (by decide))]
        rw [m3, endM]
        by_cases y : kd = 2 ∨ f2 = false
        · rw [if_pos y]
          exact ih (d + 1) σ2 μ2 fx fm f2 (by omega) (by omega) (by omega) (by omega) xt2 (by rw [g2.2.1 3 (by decide), si_j (by decide)]; exact t2) (by rw [g2.2.1 4 (by decide), si_j (by decide)]; exact t3) (by rw [g2.2.1 5 (by decide), si_j (by decide)]; exact t4) r2 r3' y t20 (m1.tr t9)
        · rw [if_neg y]
          have f2t : f2 = true := by cases f2; exact absurd (Or.inr rfl) y; rfl
          have ex := endX fx (by omega) (Or.inl ⟨fun z => y (Or.inl z), by rw [r3', f2t]; decide⟩)
          rw [r2, if_pos rfl] at ex
          exact ⟨si σ2 20 0 a 0, μ2, xt2.s20, clr σ2 t20, m1.tr t9, Or.inl ⟨ex, rfl⟩⟩
      · have r1' : resW W H br b d a (fun j => decide (j = a)) (fun ls => tst fre S kd n a b ([] ++ ls)) = none := r1
        rw [r1'] at z; cases z
    · have r1' : resW W H br b d a (fun j => decide (j = a)) (fun ls => tst fre S kd n a b ([] ++ ls)) = some (x, ls) := r1
      rcases st' with ⟨z, -⟩ | ⟨x', ls', μ2, z, m1, m2, m3, m4, m5, m6⟩
      · rw [r1'] at z; cases z
      · rw [r1'] at z
        injection z with z
        have z1 : x = x' := congrArg Prod.fst z
        have z2 : ls = ls' := congrArg Prod.snd z
        subst z1 z2
        have ex := endX fx (by omega) (Or.inr (by rw [r3]; exact nI_ne0 (by omega) (by omega)))
        rw [r3, if_neg (nI_ne0 (by omega) (by omega))] at ex
        refine ⟨si σ2 20 0 a 0, μ2, xt2.s20, clr σ2 t20, m1.tr t9, Or.inr ⟨d, x, ls, stepX.trans ex, stepM.trans m2, h1', hd, r2, r2b, r1', ?_, ?_, fun i hi => ?_, m3, m4, m5, m6⟩⟩
        · rw [si_k (by decide), g2.2.1 6 (by decide), si_eq]
        · rw [si_k (by decide)]; exact r3
        · have := r4 i hi
          rw [Nat.zero_add] at this
          rw [si_k (by decide)]
          exact this
theorem find_both {W H S : Nat} {br : Nat → Int32} {fre : Nat → Nat → Bool} {kd a b n : Nat} {but : Int32} {σ μ : St} (hw : okWHS W H S) (hS : 4 ≤ S ∧ S ≤ 10) (ha : a < W * H) (hb : b < W * H) (hn : 1 ≤ n ∧ n ≤ 4) (hk : kd ≤ 4) (hg : MG W H S br fre but μ) (s1 : σ.1 1 0 1 = nI S) (s2 : ∀ l, l < 54 → σ.1 11 1 l = endV W H l) (s3 : ∀ l, l < 54 → σ.1 14 0 l = br l) (s4 : ∀ l s, l < 54 → s < S → decide (σ.1 16 0 (10 * l + s) = -1) = fre l s) (s5 : ∀ i, i < 9 → σ.1 20 0 i = 0) :
    ∃ σ' μ', XT σ' σ ∧ (∀ i, i < 9 → σ'.1 20 0 i = 0) ∧ Scr μ' μ ∧
      ((f_X6_find σ (nI kd) (nI a) (nI b) (nI n) = some (σ', 0) ∧ f_X12_findWay μ (nI kd) (nI a) (nI b) (nI n) but = some (μ', -1)) ∨
       ∃ d' x ls, f_X6_find σ (nI kd) (nI a) (nI b) (nI n) = some (σ', 1) ∧ f_X12_findWay μ (nI kd) (nI a) (nI b) (nI n) but = some (μ', nI x) ∧ FW W H S br fre kd a b n σ' μ' d' x ls) := by
  have h9 := hw.WH.2.2
  have e : f_X6_find σ (nI kd) (nI a) (nI b) (nI n) = f_X6_find_L48 (nI a) FU (si (si (si (si (si (si σ 6 0 3 (nI kd)) 6 0 4 (nI b)) 6 0 5 (nI n)) 6 0 7 0) 6 0 8 0) 20 0 a 1) (nI 1) := by
    unfold f_X6_find chk
    rw [bnd_eq, bnd_eq, bnd_eq, bnd_eq, bnd_eq, if_pos (nI_pos' (by omega)), if_neg (nleL 9 9 rfl (by omega) (by decide)), if_pos (inbL (show a < 9 by omega) (by decide)), clL (by omega), bnd_eq]
    rfl
  rw [e]
  have t1 : XT (si (si (si (si (si (si σ 6 0 3 (nI kd)) 6 0 4 (nI b)) 6 0 5 (nI n)) 6 0 7 0) 6 0 8 0) 20 0 a 1) σ := XT.s20 (XT.s6 (XT.s6 (XT.s6 (XT.s6 (XT.s6 ⟨fun _ _ _ _ => rfl, rfl⟩)))))
  exact find_loop hw hS ha hb hn hk hg s1 s2 s3 s4 6 1 _ μ FU FU false (by omega) (by omega) (FU_lt (by omega)) (FU_lt (by omega)) t1 (by rw [si_k (by decide), si_j (by decide), si_j (by decide), si_j (by decide), si_j (by decide), si_eq]) (by rw [si_k (by decide), si_j (by decide), si_j (by decide), si_j (by decide), si_eq]) (by rw [si_k (by decide), si_j (by decide), si_j (by decide), si_eq]) (by rw [si_k (by decide), si_j (by decide), si_eq]) (by rw [si_k (by decide), si_eq]; rfl) (Or.inr rfl) (fun i hi => by
    by_cases y : i = a
    · subst y; rw [si_eq, decide_eq_true rfl]; rfl
    · rw [si_j y, si_k (by decide), si_k (by decide), si_k (by decide), si_k (by decide), si_k (by decide), s5 i hi, decide_eq_false y]; rfl) (Scr.rf μ)
