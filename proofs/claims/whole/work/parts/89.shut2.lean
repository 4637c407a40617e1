theorem RelM.mok {t W H S T k : Nat} {σ μ : St} (h : RelM t W H S T k σ μ) : Mok S μ := by
  refine ⟨h.2.2.2.1.2.2.2.2.2.2.1, fun c hc => ⟨(h.2.2.2.2.1 c hc).2.1, fun hl => ?_⟩⟩
  have g := h.of_live hc hl
  exact ⟨g.2.2, h.1.S10, g.2.1.2.2.2.1, g.2.1.2.2.2.2.1⟩
theorem RelM.owner {t W H S T k : Nat} {σ μ : St} (h : RelM t W H S T k σ μ) (h0 : 0 < S) {l s : Nat} (hl : l < 54) (hs : s < S) : σ.1 16 0 (10 * l + s) = oI (ownO μ S (-1) l s) := by
  have h10 := h.1.S10
  rcases h.2.2.2.2.2.1 h0 l hl s (by omega) with ⟨e, hn⟩ | ⟨-, c, hc, e, h1, h2, hu⟩
  · rw [e, ownO_none (fun c hc hlv _ => hn hs c hc hlv)]
    rfl
  · rw [e, ownO_some hc h1 (nI_nm1 (by omega)) h2 hu]
    rfl
/-- a letter on a link is one of the circuit that has the slot -/
theorem RelM.letOwn {t W H S T k : Nat} {σ μ : St} (h : RelM t W H S T k σ μ) (hk : k ≤ 513) {n j l : Nat} (ht : t ≤ 8) (hn : n ≤ 100) (h0 : 0 < S) (en : μ.1 0 0 25 = nI n) (hj : j < n) (hl : lkN T μ j = l) : ownO μ S (-1) l (T % S) = some (foN μ j) := by
  have h10 := h.1.S10
  obtain ⟨f1, f2, f3, f4, f5, -, -, -, -, -, -, -, -, f14, f15, -, f17⟩ := let_facts h hk ht hn en hj
  have hm : T % S < S := Nat.mod_lt _ h0
  have hh : hasS μ S (foN μ j) l (T % S) := by
    refine ⟨plN T μ j, (T - plN T μ j) % S, f3, Nat.mod_lt _ h0, f17, ?_, by rw [f15, hl]⟩
    rw [Nat.mod_add_mod]
    congr 1
    omega
  rcases h.2.2.2.2.2.1 h0 l (by omega) (T % S) (by omega) with ⟨-, z⟩ | ⟨-, c, hc, -, h1, h2, hu⟩
  · exact absurd hh (z hm _ f1 f2)
  · rw [ownO_some hc h1 (nI_nm1 (by omega)) h2 hu, hu _ f1 f2 hh]
theorem shutM {t W H S T k : Nat} {σ μ μ' : St} (h : RelM t W H S T k σ μ) (hk : k ≤ 513) {n l : Nat} (ht : t ≤ 8) (hn : n ≤ 72) (h0 : 0 < S) (hl : l < 54) (en : μ.1 0 0 25 = nI n) (hμ : ∀ a, a ≠ 6 → a ≠ 48 → a ≠ 49 → μ'.1 a = μ.1 a) : f_X12_isShut μ' (nI l) = some (bz (shB μ n S T l)) := by
  have h10 := h.1.S10
  have hT : T ≤ 40 * k := h.2.1
  have hm : T % S < S := Nat.mod_lt _ h0
  have hg := h.2.2.2.1
  have m9 : MA μ' μ 9 17 := fun a h1 h2 => hμ a (by omega) (by omega) (by omega)
  have mok : Mok S μ' := by
    obtain ⟨a1, a2⟩ := h.mok
    refine ⟨by rw [hμ 0 (by decide) (by decide) (by decide)]; exact a1, fun c hc => ?_⟩
    rw [live.cg m9, m9 9 (by omega) (by omega), m9 15 (by omega) (by omega), m9 17 (by omega) (by omega)]
    exact a2 c hc
  have eo : ownO μ' S (-1) l (T % S) = ownO μ S (-1) l (T % S) := by
    unfold ownO hasB hb1
    simp only [hpN.cg m9, stN.cg m9]
    rw [m9 9 (by omega) (by omega), m9 16 (by omega) (by omega)]
  have lo := isLetterOn_eq (μ := μ') (lk := lkN T μ) hn hl (by rw [hμ 0 (by decide) (by decide) (by decide)]; exact en) (fun j hj => by
    obtain ⟨f1, f2, f3, f4, f5, f6, f7, -, -, -, -, -, -, f14, f15, -⟩ := let_facts h hk ht (by omega) en hj
    refine ⟨f14, linkOf_eq (T := T) (c := foN μ j) (p := plN T μ j) (by omega) f1 (by omega) f5 (by omega) ?_ ?_ ?_ ?_⟩
    · rw [hμ 26 (by decide) (by decide) (by decide)]; exact f6
    · rw [hμ 27 (by decide) (by decide) (by decide)]; exact f7
    · rw [hμ 0 (by decide) (by decide) (by decide)]; exact hg.2.2.2.2.2.2.2.1
    · rw [hμ 16 (by decide) (by decide) (by decide)]; exact f15)
  unfold f_X12_isShut chk
  rw [hμ 0 (by decide) (by decide) (by decide), hμ 5 (by decide) (by decide) (by decide), hμ 10 (by decide) (by decide) (by decide), hg.2.2.2.2.2.2.1, hg.2.2.2.2.2.2.2.1, if_pos (nI_ne0 h0 (by omega)), nI_rem (by omega) (by omega), ownerOf_eq mok hl (by omega), Option.bind_some, if_pos (inbL hl (by decide)), clL (by omega), lo, Option.bind_some, eo]
  unfold shB
  by_cases b : μ.1 5 0 l = 0
  · rw [if_pos b, decide_eq_false (fun z => z b), Bool.false_or]
    cases (List.range n).any (fun j => decide (lkN T μ j = l))
    · rw [if_pos (show bz false = 0 from rfl), Bool.false_or]
      cases ho : ownO μ S (-1) l (T % S) with
      | none => rw [if_pos (show oI none = -1 from rfl)]; rfl
      | some c =>
        have hc : c < 8 := List.mem_range.mp (List.mem_of_find?_eq_some ho)
        have i1 : inb (oI (some c)) 8 := inbL hc (by decide)
        have c1 : Int32.toNatClampNeg (oI (some c)) = c := clL (by omega)
        rw [if_neg (show ¬ oI (some c) = -1 from nI_nm1 (by omega)), if_pos i1, c1]
        by_cases q : μ.1 10 0 c = 4
        · rw [if_pos q]
          show _ = some (bz (decide (μ.1 10 0 c = 4)))
          rw [decide_eq_true q]; rfl
        · rw [if_neg q]
          show _ = some (bz (decide (μ.1 10 0 c = 4)))
          rw [decide_eq_false q]; rfl
    · rw [if_neg (show ¬ bz true = 0 by decide), Bool.true_or]; rfl
  · rw [if_neg b, decide_eq_true b, Bool.true_or]; rfl
theorem freeS {t W H S T k : Nat} {σ μ σ' : St} (h : RelM t W H S T k σ μ) (hk : k ≤ 513) {n l : Nat} (ht : t ≤ 8) (hn : n ≤ 72) (h0 : 0 < S) (hl : l < 54) (en : μ.1 0 0 25 = nI n) (hσ : ∀ a, a ≠ 7 → a ≠ 15 → σ'.1 a = σ.1 a) : f_X10_isFree σ' (nI l) = some (bz (!shB μ n S T l)) := by
  have h10 := h.1.S10
  have hT : T ≤ 40 * k := h.2.1
  have hm : T % S < S := Nat.mod_lt _ h0
  have hg := h.2.2.2.1
  have eb := isBroken_eq (σ := σ') hl
  rw [hσ 14 (by decide) (by decide), (hg.2.2.2.2.2.2.2.2.2.1 l hl).1] at eb
  have sl := slotNow_eq (σ := σ') (S := S) (T := T) (by rw [hσ 1 (by decide) (by decide)]; exact hg.2.2.1) (by rw [hσ 1 (by decide) (by decide)]; exact hg.2.2.2.1) ⟨h0, h10⟩ (by omega)
  have ox := ownerX_eq (σ := σ') (s := T % S) hl (by omega)
  rw [hσ 16 (by decide) (by decide), h.owner h0 hl hm] at ox
  unfold f_X10_isFree shB
  rw [eb, Option.bind_some]
  by_cases b : μ.1 5 0 l = 0
  · rw [if_pos b, if_pos rfl, decide_eq_false (fun z => z b), Bool.false_or, sl, Option.bind_some, ox, Option.bind_some]
    cases ho : ownO μ S (-1) l (T % S) with
    | none =>
      have nl : (List.range n).any (fun j => decide (lkN T μ j = l)) = false := by
        rw [List.any_eq_false]
        intro j hj z
        rw [h.letOwn hk ht (by omega) h0 en (List.mem_range.mp hj) (of_decide_eq_true z)] at ho
        cases ho
      rw [nl, show oI none = -1 from rfl, find_m1, Option.bind_some, onR_n]
      rfl
    | some c =>
      have hc : c < 8 := List.mem_range.mp (List.mem_of_find?_eq_some ho)
      have hp := List.find?_some ho
      rw [own_pred] at hp
      have lc : live μ c := hp.1
      obtain ⟨q, o, -⟩ := h.of_live hc lc
      have e1 : σ'.1 2 c 1 = bz true := by rw [hσ 2 (by decide) (by decide), (h.2.2.2.2.1 c hc).2.2.1]; exact lc
      rw [show oI (some c) = nI c from rfl, findL hc e1, Option.bind_some, if_pos rfl, onR_s hc, hσ 2 (by decide) (by decide), q.1]
      obtain ⟨hpp, -, hp6, -, s6, e3⟩ := h.hops hc lc
      have lk17 : ∀ p, p < hpp + 2 → nN (σ.1 17 c p) < 54 ∧ σ.1 17 c p = nI (nN (σ.1 17 c p)) ∧ μ.1 16 0 (8 * c + p) = nI (nN (σ.1 17 c p)) := by
        intro p hp2
        obtain ⟨l', a1, a2, -⟩ := o.2.2.2.2.2.2.1 p (by omega)
        have e17 := q.2.2.2.2.2.2.2.2.2.2.2.2.2.2.1 p (by omega)
        have : nN (σ.1 17 c p) = l' := by unfold nN; rw [e17, a2, clL (by omega)]
        rw [this, e17, a2]
        exact ⟨a1, rfl, rfl⟩
      have hlo := hasLetterOn_eq (σ := σ') (c := c) (lkx := fun p => nN (σ.1 17 c p)) hp6 hl (by rw [hσ 2 (by decide) (by decide)]; exact s6) (fun p hp2 => ⟨(lk17 p hp2).1, by rw [hσ 17 (by decide) (by decide)]; exact (lk17 p hp2).2.1⟩)
      rw [hσ 18 (by decide) (by decide)] at hlo
      have key : (List.range (hpp + 2)).any (fun p => decide (nN (σ.1 17 c p) = l) && decide (σ.1 18 c p ≠ -1)) = (List.range n).any (fun j => decide (lkN T μ j = l)) := by
        rw [Bool.eq_iff_iff]
        simp only [List.any_eq_true, List.mem_range, Bool.and_eq_true, decide_eq_true_eq]
        constructor
        · rintro ⟨p, p1, p2, p3⟩
          obtain ⟨n', hn', en', -, -, h3⟩ := h.2.2.2.2.2.2.1
          have : n' = n := nI_inj (by omega) (by omega) (en'.symm.trans en)
          subst this
          obtain ⟨j, hj, l1, l2, l3, -⟩ := h3 c p hc (by omega) lc p3
          refine ⟨j, hj, ?_⟩
          have z1 : foN μ j = c := by unfold foN nN; rw [l1, clL (by omega)]
          have z2 : plN T μ j = p := by unfold plN nN; rw [l3, clL (by omega)]; omega
          unfold lkN
          rw [z1, z2, (lk17 p p1).2.2, p2]
          exact clL (by omega)
        · rintro ⟨j, hj, z⟩
          have w := h.letOwn hk ht (by omega) h0 en hj z
          rw [ho] at w
          injection w with w
          obtain ⟨f1, f2, f3, f4, f5, -, -, -, f9, -, f11, -, f13, f14, f15, -⟩ := let_facts h hk ht (by omega) en hj
          rw [← w] at f3 f13 f15
          refine ⟨plN T μ j, by omega, ?_, by rw [f13]; exact nI_nm1 (by omega)⟩
          have a := (lk17 (plN T μ j) (by omega)).2.2
          have a1 := (lk17 (plN T μ j) (by omega)).1
          rw [a] at f15
          rw [← z]
          exact nI_inj (by omega) (by omega) f15
      rw [key] at hlo
      rw [hlo, Option.bind_some]
      by_cases k4 : μ.1 10 0 c = 4
      · rw [if_pos k4]
        show _ = some (bz (!((List.range n).any (fun j => decide (lkN T μ j = l)) || decide (μ.1 10 0 c = 4))))
        rw [decide_eq_true k4, Bool.or_true]
        rfl
      · rw [if_neg k4]
        show _ = some (bz (!((List.range n).any (fun j => decide (lkN T μ j = l)) || decide (μ.1 10 0 c = 4))))
        rw [decide_eq_false k4, Bool.or_false]
        cases (List.range n).any (fun j => decide (lkN T μ j = l)) <;> rfl
  · rw [if_neg b, if_neg (by decide), decide_eq_true b, Bool.true_or]; rfl
