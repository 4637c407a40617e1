/-! the class's search: one way ahead, port by port -/
def SC (W H S : Nat) (br : Nat → Int32) (fre : Nat → Nat → Bool) (kd b n d : Nat) (σ : St) : Prop :=
  σ.1 1 0 1 = nI S ∧ (∀ l, l < 54 → σ.1 11 1 l = endV W H l) ∧ (∀ l, l < 54 → σ.1 14 0 l = br l) ∧ (∀ l s, l < 54 → s < S → decide (σ.1 16 0 (10 * l + s) = -1) = fre l s) ∧ σ.1 6 0 3 = nI kd ∧ σ.1 6 0 4 = nI b ∧ σ.1 6 0 5 = nI n ∧ σ.1 6 0 6 = nI d
/-- nothing but the class's working room differs -/
def XS (σ' σ : St) : Prop := (∀ a, a ≠ 6 → a ≠ 19 → a ≠ 20 → σ'.1 a = σ.1 a) ∧ (∀ j, j ≤ 6 → σ'.1 6 0 j = σ.1 6 0 j) ∧ σ'.2 = σ.2
theorem XS.rf (σ : St) : XS σ σ := ⟨fun _ _ _ _ => rfl, fun _ _ => rfl, rfl⟩
theorem XS.tr {a b c : St} (h1 : XS a b) (h2 : XS b c) : XS a c := ⟨fun x p q r => (h1.1 x p q r).trans (h2.1 x p q r), fun j hj => (h1.2.1 j hj).trans (h2.2.1 j hj), h1.2.2.trans h2.2.2⟩
theorem XS.s19 {σ' σ : St} (h : XS σ' σ) {j : Nat} {v : Int32} : XS (si σ' 19 0 j v) σ := ⟨fun x p q r => (si_k q).trans (h.1 x p q r), fun j hj => by rw [si_k (show 6 ≠ 19 by decide)]; exact h.2.1 j hj, h.2.2⟩
theorem XS.s20 {σ' σ : St} (h : XS σ' σ) {j : Nat} {v : Int32} : XS (si σ' 20 0 j v) σ := ⟨fun x p q r => (si_k r).trans (h.1 x p q r), fun j hj => by rw [si_k (show 6 ≠ 20 by decide)]; exact h.2.1 j hj, h.2.2⟩
theorem XS.s6 {σ' σ : St} (h : XS σ' σ) {i : Nat} {v : Int32} (hi : 6 < i) : XS (si σ' 6 0 i v) σ := ⟨fun x p q r => (si_k p).trans (h.1 x p q r), fun j hj => by rw [si_j (by omega)]; exact h.2.1 j hj, h.2.2⟩
theorem SC.xs {W H S : Nat} {br : Nat → Int32} {fre : Nat → Nat → Bool} {kd b n d : Nat} {σ σ' : St} (h : SC W H S br fre kd b n d σ) (x : XS σ' σ) : SC W H S br fre kd b n d σ' := by
  obtain ⟨h1, h2, h3, h4, h5, h6, h7, h8⟩ := h
  refine ⟨by rw [x.1 1 (by decide) (by decide) (by decide)]; exact h1, by rw [x.1 11 (by decide) (by decide) (by decide)]; exact h2, by rw [x.1 14 (by decide) (by decide) (by decide)]; exact h3, by rw [x.1 16 (by decide) (by decide) (by decide)]; exact h4, (x.2.1 3 (by decide)).trans h5, (x.2.1 4 (by decide)).trans h6, (x.2.1 5 (by decide)).trans h7, (x.2.1 6 (by decide)).trans h8⟩
theorem freeX2 {σ : St} {S l p : Nat} {fre : Nat → Nat → Bool} (e : σ.1 1 0 1 = nI S) (hS : 0 < S ∧ S ≤ 10) (hl : l < 54) (hp : p < 100) (hf : ∀ l s, l < 54 → s < S → decide (σ.1 16 0 (10 * l + s) = -1) = fre l s) : f_X1_freeStarts σ (nI l) (nI p) = some (nI (fset fre S l p)) := by
  rw [freeX e hS hl hp]
  unfold fset
  rw [bitsOf_congr (fun t _ => hf l ((t + p) % S) hl (Nat.mod_lt _ hS.1))]
theorem seen {W H : Nat} {br : Nat → Int32} {b : Nat} : ∀ m a P ts, P b = true → resW W H br b (m + 1) a P ts = none ∧ metW W H br b (m + 1) a P = false := by
  intro m
  induction m with
  | zero =>
    intro a P ts hP
    have key : ∀ q, okL W H br P (6 * a + (2 + q)) = true → nxL W H (6 * a + (2 + q)) ≠ b := by
      intro q ho z
      unfold okL at ho
      rw [z, hP, Bool.not_true, Bool.and_false, Bool.and_false] at ho
      exact absurd ho (by decide)
    constructor
    · show (List.range' 0 4).findSome? _ = none
      rw [List.findSome?_eq_none_iff]
      intro q _
      cases ho : okL W H br P (6 * a + (2 + q))
      · exact if_neg (by decide)
      · rw [if_pos rfl]
        show (if _ then _ else _ : Option (Nat × List Nat)).map _ = none
        rw [if_neg (fun z => key q ho z.1)]
        rfl
    · show (List.range' 0 4).any _ = false
      rw [List.any_eq_false]
      intro q _
      cases ho : okL W H br P (6 * a + (2 + q))
      · simp
      · show ¬ (true && decide _) = true
        rw [decide_eq_false (key q ho)]
        decide
  | succ m ih =>
    intro a P ts hP
    have hA : ∀ x, addP P x b = true := fun x => by unfold addP; rw [hP]; rfl
    constructor
    · show (List.range' 0 4).findSome? _ = none
      rw [List.findSome?_eq_none_iff]
      intro q _
      cases ho : okL W H br P (6 * a + (2 + q))
      · exact if_neg (by decide)
      · rw [if_pos rfl, (ih _ _ _ (hA _)).1]
        rfl
    · show (List.range' 0 4).any _ = false
      rw [List.any_eq_false]
      intro q _
      rw [(ih _ _ ts (hA _)).2, Bool.and_false]
      decide
theorem endOf_no {σ : St} {i l : Nat} (h : l < 54) (h2 : σ.1 11 i l = -2) : f_X4_endOf σ i (nI l) = some (-1) := by
  simp only [f_X4_endOf, hasLink_eq h, if_pos h2, Option.bind_some]
  rfl
theorem hop_eq {W H S : Nat} {br : Nat → Int32} {fre : Nat → Nat → Bool} {kd b n d : Nat} {σ : St} {Wk : St → Int32 → Int32 → Int32 → Option St} {P : Nat → Bool} {a q j f : Nat} (hw : okWHS W H S) (hS : 4 ≤ S ∧ S ≤ 10) (hc : SC W H S br fre kd b n d σ) (e20 : ∀ i, i < 9 → σ.1 20 0 i = bz (P i)) (ha : a < W * H) (hq : q < 4) (hj : j < 6) :
    f_X6_hop Wk σ (nI (6 * a + (2 + q))) (nI j) (nI f) = if okL W H br P (6 * a + (2 + q)) then (Wk (si (si σ 19 0 j (nI (6 * a + (2 + q)))) 20 0 (nxL W H (6 * a + (2 + q))) 1) (nI (nxL W H (6 * a + (2 + q)))) (nI (j + 1)) (nI (f &&& fset fre S (6 * a + (2 + q)) (j + 1)))).bind (fun σ7 => some (si σ7 20 0 (nxL W H (6 * a + (2 + q))) 0)) else some σ := by
  have h9 := hw.WH.2.2
  have hl : 6 * a + (2 + q) < 54 := by omega
  have l1 : (6 * a + (2 + q)) / 6 = a := by omega
  have l2 : (6 * a + (2 + q)) % 6 = 2 + q := by omega
  have ein := end_in hw hl (by rw [l1]; exact ha) (by rw [l2]; omega)
  obtain ⟨h1, h2, h3, h4, -⟩ := hc
  have eb := isBroken_eq (σ := σ) hl
  rw [h3 _ hl] at eb
  unfold f_X6_hop okL
  rw [eb, Option.bind_some]
  by_cases y : br (6 * a + (2 + q)) = 0
  · rw [if_pos y, if_pos rfl, decide_eq_true y, Bool.true_and]
    rcases ein with z | ⟨z1, z2⟩
    · rw [endOf_no hl (by rw [h2 _ hl]; exact z), Option.bind_some, if_neg (by decide), decide_eq_false (fun y => y z), Bool.false_and, if_neg (by decide)]
    · have ne : ¬ endV W H (6 * a + (2 + q)) = -2 := by rw [z2]; exact nI_nm2 (by omega)
      rw [endOf_eq hl (by rw [h2 _ hl]; exact ne), h2 _ hl, z2, Option.bind_some, decide_eq_true (by rw [← z2]; exact ne), Bool.true_and]
      generalize nxL W H (6 * a + (2 + q)) = x at z1
      have i1 : inb (nI x) 9 := inbL (by omega) (by decide)
      have c1 : Int32.toNatClampNeg (nI x) = x := clL (by omega)
      unfold chk
      rw [if_pos (nI_pos' (by omega)), if_pos (ltL 9 9 rfl (by omega) (by decide)), if_pos i1, c1, e20 x (by omega)]
      cases hP : P x
      · rw [if_pos (show bz false = 0 from rfl), if_pos (nI_pos' (by omega)), if_neg (nleL 6 6 rfl hj (by decide)), if_pos (inbL (show j < 6 by omega) (by decide)), clL (by omega), bnd_eq, if_pos i1, bnd_eq, nI_1]
        have fx := freeX2 (σ := si (si σ 19 0 j (nI (6 * a + (2 + q)))) 20 0 x 1) (S := S) (l := 6 * a + (2 + q)) (p := j + 1) (fre := fre) (by rw [si_k (by decide), si_k (by decide)]; exact h1) ⟨by omega, hS.2⟩ hl (by omega) (by rw [si_k (by decide), si_k (by decide)]; exact h4)
        rw [fx, Option.bind_some, nI_and, if_pos (show (!false) = true from rfl)]
        congr 1
        funext σ7
        rw [if_pos i1, bnd_eq]
      · rw [if_neg (show ¬ bz true = 0 by decide), if_neg (show ¬ ((!true) = true) by decide)]
  · rw [if_neg y, if_neg (by decide), decide_eq_false y, Bool.false_and, Bool.and_false, if_neg (by decide)]
/-- what the class's walk leaves behind -/
def WR (σ' σ : St) (j m : Nat) (r : Option (Nat × List Nat)) (me : Bool) : Prop :=
  XS σ' σ ∧ (∀ i, i < 9 → σ'.1 20 0 i = σ.1 20 0 i) ∧ (∀ i, i < j → σ'.1 19 0 i = σ.1 19 0 i) ∧
  ((r = none ∧ σ'.1 6 0 7 = 0 ∧ σ'.1 6 0 8 = if me then 1 else σ.1 6 0 8) ∨ ∃ x ls, r = some (x, ls) ∧ x ≠ 0 ∧ x < 1024 ∧ σ'.1 6 0 7 = nI x ∧ ∀ i, i < m → σ'.1 19 0 (j + i) = nI (ls.getD i 0))
theorem walk_eq {W H S : Nat} {br : Nat → Int32} {fre : Nat → Nat → Bool} {kd b n d : Nat} (hw : okWHS W H S) (hS : 4 ≤ S ∧ S ≤ 10) (hd : d ≤ 6) (hb : b < W * H) (hn : 1 ≤ n ∧ n ≤ 4) (hk : kd ≤ 4) : ∀ m j a P f σ e, j + m = d → a < W * H → P a = true → f < 2 ^ S → SC W H S br fre kd b n d σ → σ.1 6 0 7 = 0 → (∀ i, i < 9 → σ.1 20 0 i = bz (P i)) →
    ∃ σ', f_X6_walk (m + 1 + e) σ (nI a) (nI j) (nI f) = some σ' ∧ WR σ' σ j m (resW W H br b m a P (fun ls => chN kd n S (facc fre S f (j + 1) (ls ++ [6 * b + 1])))) (metW W H br b m a P) := by
  have h9 := hw.WH.2.2
  have p2 : 2 ^ S ≤ 1024 := Nat.pow_le_pow_right (n := 2) (by decide) hS.2
  intro m
  induction m with
  | zero =>
    intro j a P f σ e h1 ha hP hf hc e7 e20
    have ej : j = d := by omega
    subst ej
    obtain ⟨s1, s2, s3, s4, s5, s6, s7, s8⟩ := hc
    have ew : f_X6_walk (0 + 1 + e) σ (nI a) (nI j) (nI f) = (f_X6_end σ (nI a) (nI j) (nI f)) := by
      rw [show 0 + 1 + e = e + 1 by omega]
      show f_X6_walkb (f_X6_walk e) σ (nI a) (nI j) (nI f) = _
      unfold f_X6_walkb
      rw [s8, if_pos (nI_le (Nat.le_refl _) (by omega)), Option.bind_fun_some]
      by_cases z : nI a = σ.1 6 0 4
      · rw [if_pos z]
      · rw [if_neg z]
    have er : resW W H br b 0 a P (fun ls => chN kd n S (facc fre S f (j + 1) (ls ++ [6 * b + 1]))) = (if a = b ∧ chN kd n S (f &&& fset fre S (6 * b + 1) (j + 1)) ≠ 0 then some (chN kd n S (f &&& fset fre S (6 * b + 1) (j + 1)), []) else none) := rfl
    have em : metW W H br b 0 a P = decide (a = b) := rfl
    rw [ew, er, em]
    unfold f_X6_end
    rw [s6, s8]
    by_cases z : a = b
    · subst z
      have hlt : f &&& fset fre S (6 * a + 1) (j + 1) < 2 ^ S := Nat.lt_of_le_of_lt Nat.and_le_left hf
      have fx := freeX2 (σ := si σ 6 0 8 1) (S := S) (l := 6 * a + 1) (p := j + 1) (fre := fre) (by rw [si_k (by decide)]; exact s1) ⟨by omega, hS.2⟩ (by omega) (by omega) (by rw [si_k (by decide)]; exact s4)
      obtain ⟨c1, c2, -, -⟩ := chN_eq (μ := ((fun _ _ _ => nI S), σ.2)) (S := S) (kd := kd) (n := n) hS rfl hlt hn hk
      refine ⟨si (si σ 6 0 8 1) 6 0 7 (nI (chN kd n S (f &&& fset fre S (6 * a + 1) (j + 1)))), ?_, ?_⟩
      · rw [if_pos rfl, if_pos rfl, bnd_eq]
        unfold f_X11_linkOf
        rw [Option.bind_some, show (6 : Int32) * nI a + 1 = nI (6 * a + 1) from by rw [show (6 : Int32) = nI 6 from rfl, nI_mul, nI_1], nI_1, fx, Option.bind_some, nI_and, si_j (by decide), si_j (by decide), si_k (by decide), s5, s7, s1, c2, Option.bind_some, bnd_eq]
      · refine ⟨((XS.rf σ).s6 (by decide)).s6 (by decide), fun i hi => by rw [si_k (by decide), si_k (by decide)], fun i hi => by rw [si_k (by decide), si_k (by decide)], ?_⟩
        by_cases y : chN kd n S (f &&& fset fre S (6 * a + 1) (j + 1)) = 0
        · left
          refine ⟨if_neg (fun w => w.2 y), by rw [si_eq, y]; rfl, ?_⟩
          rw [si_j (by decide), si_eq, decide_eq_true rfl, if_pos rfl]
        · right
          exact ⟨_, [], if_pos ⟨rfl, y⟩, y, by omega, si_eq, fun i hi => by omega⟩
    · refine ⟨σ, if_neg (fun w => z (nI_inj (by omega) (by omega) w)), XS.rf σ, fun _ _ => rfl, fun _ _ => rfl, Or.inl ⟨if_neg (fun w => z w.1), e7, ?_⟩⟩
      rw [decide_eq_false z, if_neg (by decide)]
  | succ m ih =>
    intro j a P f σ e h1 ha hP hf hc e7 e20
    have ew : f_X6_walk (m + 1 + 1 + e) σ (nI a) (nI j) (nI f) = f_X6_walkb (f_X6_walk (m + 1 + e)) σ (nI a) (nI j) (nI f) := by
      rw [show m + 1 + 1 + e = m + 1 + e + 1 by omega]
      rfl
    rw [ew]
    unfold f_X6_walkb
    rw [hc.2.2.2.2.2.1, hc.2.2.2.2.2.2.2]
    by_cases z : a = b
    · subst z
      obtain ⟨g1, g2⟩ := seen (W := W) (H := H) (br := br) m a P (fun ls => chN kd n S (facc fre S f (j + 1) (ls ++ [6 * a + 1]))) hP
      rw [g1, g2]
      refine ⟨σ, ?_, XS.rf σ, fun _ _ => rfl, fun _ _ => rfl, Or.inl ⟨rfl, e7, by rw [if_neg (by decide)]⟩⟩
      rw [if_pos rfl, Option.bind_fun_some]
      unfold f_X6_end
      rw [hc.2.2.2.2.2.1, hc.2.2.2.2.2.2.2, if_pos rfl, if_neg (fun w => absurd (nI_inj (by omega) (by omega) w) (by omega))]
    · rw [if_neg (fun w => z (nI_inj (by omega) (by omega) w)), if_neg (nI_ge (by omega) (by omega))]
      have loop : ∀ w q σ1 fu, q + w = 4 → w < fu → XS σ1 σ → σ1.1 6 0 7 = 0 → (∀ i, i < 9 → σ1.1 20 0 i = σ.1 20 0 i) → (∀ i, i < j → σ1.1 19 0 i = σ.1 19 0 i) →
          ∃ σ', f_X6_walk_L27 (f_X6_walk (m + 1 + e)) (nI a) (nI j) (nI f) fu σ1 (nI (2 + q)) = some σ' ∧ WR σ' σ1 j (m + 1) ((List.range' q w).findSome? (fun q => if okL W H br P (6 * a + (2 + q)) then (resW W H br b m (nxL W H (6 * a + (2 + q))) (addP P (nxL W H (6 * a + (2 + q)))) (fun ls => chN kd n S (facc fre S f (j + 1) (((6 * a + (2 + q)) :: ls) ++ [6 * b + 1])))).map (fun z => (z.1, (6 * a + (2 + q)) :: z.2)) else none)) ((List.range' q w).any (fun q => okL W H br P (6 * a + (2 + q)) && metW W H br b m (nxL W H (6 * a + (2 + q))) (addP P (nxL W H (6 * a + (2 + q)))))) := by
        intro w
        induction w with
        | zero =>
          intro q σ1 fu k1 k2 k3 k4 k5 k6
          obtain ⟨fu, rfl⟩ : ∃ i, fu = i + 1 := ⟨fu - 1, by omega⟩
          refine ⟨σ1, ?_, XS.rf σ1, fun _ _ => rfl, fun _ _ => rfl, Or.inl ⟨rfl, k4, by rw [show (List.range' q 0).any _ = false from rfl, if_neg (by decide)]⟩⟩
          show f_X6_walk_L27b _ (nI a) (nI j) (nI f) (f_X6_walk_L27 _ (nI a) (nI j) (nI f) fu) σ1 (nI (2 + q)) = _
          unfold f_X6_walk_L27b
          rw [if_neg (show ¬ nI (2 + q) ≤ 5 from nI_ge (b := 2 + q) (a := 5) (by omega) (by omega))]
        | succ w ihw =>
          intro q σ1 fu k1 k2 k3 k4 k5 k6
          obtain ⟨fu, rfl⟩ : ∃ i, fu = i + 1 := ⟨fu - 1, by omega⟩
          have hc1 := hc.xs k3
          have e20' : ∀ i, i < 9 → σ1.1 20 0 i = bz (P i) := fun i hi => (k5 i hi).trans (e20 i hi)
          have hq : q < 4 := by omega
          have hop := hop_eq (Wk := f_X6_walk (m + 1 + e)) (q := q) (j := j) (f := f) hw hS hc1 e20' ha hq (by omega)
          have ein := end_in (l := 6 * a + (2 + q)) hw (by omega) (by omega) (by omega)
          have step : f_X6_walk_L27 (f_X6_walk (m + 1 + e)) (nI a) (nI j) (nI f) (fu + 1) σ1 (nI (2 + q)) = (f_X6_hop (f_X6_walk (m + 1 + e)) σ1 (nI (6 * a + (2 + q))) (nI j) (nI f)).bind (fun σ7 => f_X6_walk_L27 (f_X6_walk (m + 1 + e)) (nI a) (nI j) (nI f) fu σ7 (nI (2 + (q + 1)))) := by
            show f_X6_walk_L27b _ (nI a) (nI j) (nI f) (f_X6_walk_L27 _ (nI a) (nI j) (nI f) fu) σ1 (nI (2 + q)) = _
            unfold f_X6_walk_L27b
            rw [if_pos (show nI (2 + q) ≤ 5 from nI_le (b := 5) (a := 2 + q) (by omega) (by decide)), k4, if_pos rfl]
            unfold f_X11_linkOf
            rw [Option.bind_some, show (6 : Int32) * nI a + nI (2 + q) = nI (6 * a + (2 + q)) from by rw [show (6 : Int32) = nI 6 from rfl, nI_mul, nI_add], nI_1]
            rfl
          rw [step, hop, List.range'_succ, List.findSome?_cons, List.any_cons]
          cases ho : okL W H br P (6 * a + (2 + q))
          · rw [if_neg (by decide), Option.bind_some, Bool.false_and, Bool.false_or]
            exact ihw (q + 1) σ1 fu (by omega) (by omega) k3 k4 k5 k6
          · rw [if_pos rfl, if_pos rfl, Bool.true_and]
            have hx : nxL W H (6 * a + (2 + q)) < W * H ∧ P (nxL W H (6 * a + (2 + q))) = false := by
              unfold okL at ho
              rcases ein with y | ⟨y, -⟩
              · rw [decide_eq_false (fun v => v y), Bool.false_and] at ho; exact absurd ho (by decide)
              · refine ⟨y, ?_⟩
                cases hp : P (nxL W H (6 * a + (2 + q)))
                · rfl
                · rw [hp, Bool.not_true, Bool.and_false, Bool.and_false] at ho; exact absurd ho (by decide)
            generalize nxL W H (6 * a + (2 + q)) = x at hx ⊢
            obtain ⟨hx1, hx2⟩ := hx
            obtain ⟨σ2, g1, g2, g3, g4, g5⟩ := ih (j + 1) x (addP P x) (f &&& fset fre S (6 * a + (2 + q)) (j + 1)) (si (si σ1 19 0 j (nI (6 * a + (2 + q)))) 20 0 x 1) e (by omega) hx1 (by unfold addP; rw [decide_eq_true rfl, Bool.or_true]) (Nat.lt_of_le_of_lt Nat.and_le_left hf) (hc1.xs (XS.rf σ1).s19.s20) (by rw [si_k (by decide), si_k (by decide)]; exact k4) (fun i hi => by
              unfold addP
              by_cases y : i = x
              · subst y; rw [si_eq, decide_eq_true rfl, Bool.or_true]; rfl
              · rw [si_j y, si_k (by decide), decide_eq_false y, Bool.or_false]; exact e20' i hi)
            have x3 : XS (si σ2 20 0 x 0) σ1 := (g2.tr (XS.rf σ1).s19.s20).s20
            have x20 : ∀ i, i < 9 → (si σ2 20 0 x 0).1 20 0 i = σ1.1 20 0 i := by
              intro i hi
              by_cases y : i = x
              · subst y; rw [si_eq, e20' i hi, hx2]; rfl
              · rw [si_j y, g3 i hi, si_j y, si_k (by decide)]
            have x19 : ∀ i, i < j → (si σ2 20 0 x 0).1 19 0 i = σ1.1 19 0 i := fun i hi => by rw [si_k (by decide), g4 i (by omega), si_k (by decide), si_j (by omega)]
            rw [g1, Option.bind_some, Option.bind_some]
            rcases g5 with ⟨r1, r2, r3⟩ | ⟨y, ls, r1, r2, r2b, r3, r4⟩
            · have r1' : resW W H br b m x (addP P x) (fun ls => chN kd n S (facc fre S f (j + 1) (((6 * a + (2 + q)) :: ls) ++ [6 * b + 1]))) = none := r1
              rw [r1']
              obtain ⟨σ3, v1, v2, v3, v4, v5⟩ := ihw (q + 1) (si σ2 20 0 x 0) fu (by omega) (by omega) (x3.tr k3) (by rw [si_k (by decide)]; exact r2) (fun i hi => (x20 i hi).trans (k5 i hi)) (fun i hi => (x19 i hi).trans (k6 i hi))
              refine ⟨σ3, v1, v2.tr x3, fun i hi => (v3 i hi).trans (x20 i hi), fun i hi => (v4 i hi).trans (x19 i hi), ?_⟩
              rcases v5 with ⟨u1, u2, u3⟩ | u
              · left
                refine ⟨u1, u2, u3.trans ?_⟩
                rw [si_k (by decide), r3, si_k (by decide), si_k (by decide)]
                cases metW W H br b m x (addP P x)
                · rw [Bool.false_or, if_neg (show ¬ (false = true) by decide)]
                · rw [Bool.true_or, if_pos rfl]; split <;> rfl
              · right
                exact u
            · have r1' : resW W H br b m x (addP P x) (fun ls => chN kd n S (facc fre S f (j + 1) (((6 * a + (2 + q)) :: ls) ++ [6 * b + 1]))) = some (y, ls) := r1
              rw [r1']
              have e7' : (si σ2 20 0 x 0).1 6 0 7 = nI y := by rw [si_k (by decide)]; exact r3
              obtain ⟨fu, rfl⟩ : ∃ i, fu = i + 1 := ⟨fu - 1, by omega⟩
              refine ⟨si σ2 20 0 x 0, ?_, x3, x20, x19, Or.inr ⟨y, (6 * a + (2 + q)) :: ls, rfl, r2, r2b, e7', fun i hi => ?_⟩⟩
              · show f_X6_walk_L27b _ (nI a) (nI j) (nI f) (f_X6_walk_L27 _ (nI a) (nI j) (nI f) fu) (si σ2 20 0 x 0) (nI (2 + (q + 1))) = _
                unfold f_X6_walk_L27b
                rw [e7', if_neg (show ¬ nI y = 0 from nI_ne0 (by omega) (by omega))]
                split <;> rfl
              · rw [si_k (by decide)]
                cases i with
                | zero =>
                  show σ2.1 19 0 j = nI (6 * a + (2 + q))
                  rw [g4 j (by omega), si_k (by decide), si_eq]
                | succ i =>
                  have := r4 i (by omega)
                  rw [show j + (i + 1) = j + 1 + i by omega]
                  exact this
      exact loop 4 0 σ FU (by omega) (FU_lt (by omega)) (XS.rf σ) e7 (fun _ _ => rfl) (fun _ _ => rfl)
