/-! uses of links by letters; the class's letters go on -/
def afterU (μ : St) : Option St := (f_X12_moveStrays μ).bind fun σ7 => (f_X12_setLetters σ7).bind fun σ9 => (f_X12_setStrays σ9).bind fun σ11 => bnd (si σ11 0 0 3 ((σ11.1 0 0 3) + 1)) fun σ12 => some σ12
theorem uses_eq {μ : St} {n : Nat} {lk : Nat → Nat} (hn : n ≤ 72) (en : μ.1 0 0 25 = nI n) (hlk : ∀ j, j < n → lk j < 54 ∧ ∀ μ' : St, (∀ a, a ≠ 6 → μ'.1 a = μ.1 a) → f_X12_linkOf μ' (nI j) = some (nI (lk j))) :
    ∃ μ2, f_X12_cycle_L51 FU μ 0 = afterU μ2 ∧ (∀ a, a ≠ 6 → μ2.1 a = μ.1 a) ∧ ∀ l, μ2.1 6 0 l = μ.1 6 0 l + nI (sumN (fun j => if l = lk j then 1 else 0) n) := by
  have go : ∀ m k μ1 fu, k + m = n → m < fu → (∀ a, a ≠ 6 → μ1.1 a = μ.1 a) → (∀ l, μ1.1 6 0 l = μ.1 6 0 l + nI (sumN (fun j => if l = lk j then 1 else 0) k)) → ∃ μ2, f_X12_cycle_L51 fu μ1 (nI k) = afterU μ2 ∧ (∀ a, a ≠ 6 → μ2.1 a = μ.1 a) ∧ ∀ l, μ2.1 6 0 l = μ.1 6 0 l + nI (sumN (fun j => if l = lk j then 1 else 0) n) := by
    intro m
    induction m with
    | zero =>
      intro k μ1 fu h1 h2 k1 k2
      obtain ⟨fu, rfl⟩ : ∃ j, fu = j + 1 := ⟨fu - 1, by omega⟩
      have e : k = n := by omega
      subst e
      refine ⟨μ1, ?_, k1, k2⟩
      show f_X12_cycle_L51b (f_X12_cycle_L51 fu) μ1 (nI k) = _
      unfold f_X12_cycle_L51b afterU
      rw [k1 0 (by decide), en, if_neg (nI_nlt (Nat.le_refl _) (by omega))]
    | succ m ih =>
      intro k μ1 fu h1 h2 k1 k2
      obtain ⟨fu, rfl⟩ : ∃ j, fu = j + 1 := ⟨fu - 1, by omega⟩
      have hk : k < n := by omega
      obtain ⟨l54, hl⟩ := hlk k hk
      have sm : ∀ f : Nat → Nat, sumN f (k + 1) = sumN f k + f k := fun _ => rfl
      have i1 : inb (nI (lk k)) 54 := inbL l54 (by decide)
      obtain ⟨μ2, g1, g2⟩ := ih (k + 1) (si μ1 6 0 (lk k) (μ1.1 6 0 (lk k) + 1)) fu (by omega) (by omega) (fun a ha => (si_k ha).trans (k1 a ha)) (fun l => by
        rw [sm]
        by_cases e : l = lk k
        · rw [e, si_eq, k2, if_pos rfl, ← adda]; rfl
        · rw [si_j e, k2, if_neg e, Nat.add_zero])
      refine ⟨μ2, Eq.trans ?_ g1, g2⟩
      show f_X12_cycle_L51b (f_X12_cycle_L51 fu) μ1 (nI k) = _
      generalize f_X12_cycle_L51 fu = K
      unfold f_X12_cycle_L51b chk
      rw [k1 0 (by decide), en, if_pos (nI_lt hk (by omega)), hl μ1 k1, Option.bind_some, if_pos i1, if_pos i1, clL (by omega), bnd_eq, nI_1]
  exact go n 0 μ FU (by omega) (FU_lt (by omega)) (fun _ _ => rfl) (fun _ => (addz _).symm)
theorem use_eq {σ : St} {l : Nat} (hl : l < 54) : f_X1_use σ (nI l) = some (si σ 15 0 l (σ.1 15 0 l + 1)) := by
  have i1 : inb (nI l) 54 := inbL hl (by decide)
  unfold f_X1_use chk
  rw [isLN hl, Option.bind_some, if_neg (by decide), if_pos i1, if_pos i1, clL (by omega), bnd_eq]
theorem useLinks_eq {σ : St} {c hp : Nat} {lkx : Nat → Nat} (hhp : hp ≤ 6) (e6 : σ.1 2 c 6 = nI hp) (h17 : ∀ p, p < hp + 2 → lkx p < 54 ∧ σ.1 17 c p = nI (lkx p)) :
    ∃ σ2, f_X2_useLinks σ c = some σ2 ∧ (∀ a, a ≠ 15 → σ2.1 a = σ.1 a) ∧ σ2.2 = σ.2 ∧ ∀ l, σ2.1 15 0 l = σ.1 15 0 l + nI (sumN (fun p => if decide (σ.1 18 c p ≠ -1) then (if l = lkx p then 1 else 0) else 0) (hp + 2)) := by
  have go : ∀ m p σ1 fu, p + m = hp + 2 → m < fu → (∀ a, a ≠ 15 → σ1.1 a = σ.1 a) → σ1.2 = σ.2 → (∀ l, σ1.1 15 0 l = σ.1 15 0 l + nI (sumN (fun p => if decide (σ.1 18 c p ≠ -1) then (if l = lkx p then 1 else 0) else 0) p)) → ∃ σ2, f_X2_useLinks_L2 c fu σ1 (nI p) = some σ2 ∧ (∀ a, a ≠ 15 → σ2.1 a = σ.1 a) ∧ σ2.2 = σ.2 ∧ ∀ l, σ2.1 15 0 l = σ.1 15 0 l + nI (sumN (fun p => if decide (σ.1 18 c p ≠ -1) then (if l = lkx p then 1 else 0) else 0) (hp + 2)) := by
    intro m
    induction m with
    | zero =>
      intro p σ1 fu h1 h2 k1 k2 k3
      obtain ⟨fu, rfl⟩ : ∃ j, fu = j + 1 := ⟨fu - 1, by omega⟩
      have e : p = hp + 2 := by omega
      subst e
      refine ⟨σ1, ?_, k1, k2, k3⟩
      show f_X2_useLinks_L2b c (f_X2_useLinks_L2 c fu) σ1 (nI (hp + 2)) = _
      unfold f_X2_useLinks_L2b
      rw [places_eq (by rw [k1 2 (by decide)]; exact e6) hhp, Option.bind_some, if_neg (nI_nlt (Nat.le_refl _) (by omega))]
    | succ m ih =>
      intro p σ1 fu h1 h2 k1 k2 k3
      obtain ⟨fu, rfl⟩ : ∃ j, fu = j + 1 := ⟨fu - 1, by omega⟩
      have hp2 : p < hp + 2 := by omega
      obtain ⟨l54, e17⟩ := h17 p hp2
      have sm : ∀ f : Nat → Nat, sumN f (p + 1) = sumN f p + f p := fun _ => rfl
      have i1 : inb (nI p) 8 := inbL (by omega) (by decide)
      have st : ∀ K : St → Int32 → Option St, f_X2_useLinks_L2b c K σ1 (nI p) = if σ.1 18 c p = -1 then K σ1 (nI (p + 1)) else K (si σ1 15 0 (lkx p) (σ1.1 15 0 (lkx p) + 1)) (nI (p + 1)) := by
        intro K
        unfold f_X2_useLinks_L2b chk
        rw [places_eq (by rw [k1 2 (by decide)]; exact e6) hhp, Option.bind_some, if_pos (nI_lt hp2 (by omega)), if_pos i1, if_pos i1, clL (by omega), k1 18 (by decide), k1 17 (by decide), e17, use_eq l54, Option.bind_some, nI_1]
      have hd : f_X2_useLinks_L2 c (fu + 1) σ1 (nI p) = f_X2_useLinks_L2b c (f_X2_useLinks_L2 c fu) σ1 (nI p) := rfl
      rw [hd, st]
      by_cases q : σ.1 18 c p = -1
      · rw [if_pos q]
        refine ih (p + 1) σ1 fu (by omega) (by omega) k1 k2 (fun l => ?_)
        rw [sm, decide_eq_false (fun z => z q), if_neg (by decide), Nat.add_zero]
        exact k3 l
      · rw [if_neg q]
        refine ih (p + 1) _ fu (by omega) (by omega) (fun a ha => (si_k ha).trans (k1 a ha)) k2 (fun l => ?_)
        rw [sm, decide_eq_true q, if_pos rfl]
        by_cases e : l = lkx p
        · rw [e, si_eq, k3, if_pos rfl, ← adda]; rfl
        · rw [si_j e, k3, if_neg e, Nat.add_zero]
  exact go (hp + 2) 0 σ FU (by omega) (FU_lt (by omega)) (fun _ _ => rfl) rfl (fun _ => (addz _).symm)
theorem goods_eq : ∀ t, t < 4 → ∀ g, g < 2 → nI (2 * t + g) &&& 1 = nI g ∧ nI (2 * t + g) >>> (1 &&& 31) = nI t := by decide
theorem shift_eq {c : Nat} {r : Option Nat} {v : Int32} : ∀ (m : Nat) (σ : St) (fu : Nat), m < fu → m < 8 → ∃ σ2, f_X2_advance_L18 c r v fu σ (nI m) = (if v = -1 then some (σ2, 0) else onR 8 r ((f_X2_deliver σ2 c v none).bind fun (σ8, r7) => some (σ8, r7)) (fun j6 => (f_X2_deliver σ2 c v (some j6)).bind fun (σ10, r9) => some (σ10, r9))) ∧ (∀ a, a ≠ 18 → σ2.1 a = σ.1 a) ∧ (∀ e, e ≠ c → σ2.1 18 e = σ.1 18 e) ∧ σ2.1 18 c 0 = -1 ∧ (∀ p, 1 ≤ p → p ≤ m → σ2.1 18 c p = σ.1 18 c (p - 1)) ∧ (∀ p, m < p → σ2.1 18 c p = σ.1 18 c p) ∧ σ2.2 = σ.2 := by
  intro m
  induction m with
  | zero =>
    intro σ fu h1 h2
    obtain ⟨fu, rfl⟩ : ∃ j, fu = j + 1 := ⟨fu - 1, by omega⟩
    refine ⟨si σ 18 c 0 (-1), ?_, fun a ha => si_k ha, fun e he => si_i he, si_eq, fun p p1 p2 => by omega, fun p hp => si_j (by omega), rfl⟩
    show f_X2_advance_L18b c r v (f_X2_advance_L18 c r v fu) σ (nI 0) = _
    unfold f_X2_advance_L18b
    rw [if_neg (show ¬ 0 < nI 0 by decide), bnd_eq]
  | succ m ih =>
    intro σ fu h1 h2
    obtain ⟨fu, rfl⟩ : ∃ j, fu = j + 1 := ⟨fu - 1, by omega⟩
    obtain ⟨σ2, g1, g2, g3, g4, g5, g6, g7⟩ := ih (si σ 18 c (m + 1) (σ.1 18 c m)) fu (by omega) (by omega)
    refine ⟨σ2, Eq.trans ?_ g1, fun a ha => (g2 a ha).trans (si_k ha), fun e he => (g3 e he).trans (si_i he), g4, fun p p1 p2 => ?_, fun p hp => ?_, g7⟩
    · show f_X2_advance_L18b c r v (f_X2_advance_L18 c r v fu) σ (nI (m + 1)) = _
      generalize f_X2_advance_L18 c r v fu = K
      unfold f_X2_advance_L18b chk
      rw [if_pos (show 0 < nI (m + 1) from nI_lt (a := 0) (by omega) (by omega)), show nI (m + 1) - 1 = nI m from nI_sub (b := 1) (by omega), show nI (m + 1) + (-1) = nI m from by rw [← Int32.sub_eq_add_neg]; exact nI_sub (b := 1) (by omega), if_pos (inbL (show m < 8 by omega) (by decide)), if_pos (inbL (show m + 1 < 8 by omega) (by decide)), clL (by omega), clL (by omega), bnd_eq]
    · by_cases q : p = m + 1
      · subst q
        rw [g6 (m + 1) (by omega), si_eq]
        rfl
      · rw [g5 p p1 (by omega), si_j (by omega)]
    · rw [g6 p (by omega), si_j (by omega)]
/-- the letters of one circuit go on -/
theorem advance_eq {σ : St} {c hp G D : Nat} {r : Option Nat} (hhp : 1 ≤ hp ∧ hp ≤ 6) (e6 : σ.1 2 c 6 = nI hp) (hr : ∀ b, r = some b → b < 8 ∧ b ≠ c) (hV : (σ.1 18 c (hp + 1) = -1 ∧ G = 0 ∧ D = 0) ∨ (G ≤ 1 ∧ D ≤ 3 ∧ σ.1 18 c (hp + 1) = nI (2 * D + G))) :
    ∃ σ2, f_X2_advance σ c r = some (σ2, nI G) ∧ (∀ a, a ≠ 2 → a ≠ 18 → σ2.1 a = σ.1 a) ∧ (∀ e, e ≠ c → σ2.1 18 e = σ.1 18 e) ∧ σ2.1 18 c 0 = -1 ∧ (∀ p, 1 ≤ p → p < hp + 2 → σ2.1 18 c p = σ.1 18 c (p - 1)) ∧ (∀ p, hp + 2 ≤ p → σ2.1 18 c p = σ.1 18 c p) ∧ (∀ e j, j ≠ 9 → j ≠ 11 → j ≠ 12 → σ2.1 2 e j = σ.1 2 e j) ∧ (∀ e, σ2.1 2 e 9 = σ.1 2 e 9 + nI (if e = c then G else 0)) ∧ (∀ e, σ2.1 2 e 12 = σ.1 2 e 12 + nI (if e = c then G else 0)) ∧ (∀ e, σ2.1 2 e 11 = σ.1 2 e 11 + nI (if r = some e then D else 0)) ∧ σ2.2 = σ.2 := by
  have p1 : nI (hp + 2) - 1 = nI (hp + 1) := nI_sub (b := 1) (by omega)
  have la : f_X2_letterAt σ c (nI (hp + 1)) = some (σ.1 18 c (hp + 1)) := by
    unfold f_X2_letterAt chk
    rw [if_pos (nI_pos' (by omega)), if_neg (nleL 8 8 rfl (by omega) (by decide)), if_pos (inbL (show hp + 1 < 8 by omega) (by decide)), clL (by omega)]
  obtain ⟨σ1, g1, g2, g3, g4, g5, g6, g7⟩ := shift_eq (c := c) (r := r) (v := σ.1 18 c (hp + 1)) (hp + 1) σ FU (FU_lt (by omega)) (by omega)
  have ad : f_X2_advance σ c r = f_X2_advance_L18 c r (σ.1 18 c (hp + 1)) FU σ (nI (hp + 1)) := by
    unfold f_X2_advance
    rw [places_eq e6 hhp.2, Option.bind_some, p1, la, Option.bind_some, Option.bind_some, p1]
  have ad2 := ad.trans g1
  rcases hV with ⟨z, rfl, rfl⟩ | ⟨hG, hD, z⟩
  · rw [z, if_pos rfl] at ad2
    refine ⟨σ1, ad2, fun a a2 a18 => g2 a a18, g3, g4, fun p q1 q2 => g5 p q1 (by omega), fun p hp => g6 p (by omega), fun e j _ _ _ => by rw [g2 2 (by decide)], fun e => ?_, fun e => ?_, fun e => ?_, g7⟩
    · rw [g2 2 (by decide)]; split <;> exact (addz _).symm
    · rw [g2 2 (by decide)]; split <;> exact (addz _).symm
    · rw [g2 2 (by decide)]; split <;> exact (addz _).symm
  · obtain ⟨b1, b2⟩ := goods_eq D (by omega) G (by omega)
    rw [z, if_neg (nI_nm1 (by omega))] at ad2
    cases r with
    | none =>
      have dl : f_X2_deliver σ1 c (nI (2 * D + G)) none = some (si (si σ1 2 c 9 (σ1.1 2 c 9 + nI G)) 2 c 12 (σ1.1 2 c 12 + nI G), nI G) := by
        unfold f_X2_deliver f_X2_goodsOf
        rw [Option.bind_some, b1, bnd_eq, bnd_eq, onR_n, si_j (by decide)]
      rw [onR_n, dl, Option.bind_some] at ad2
      refine ⟨_, ad2, fun a a2 a18 => by rw [si_k a2, si_k a2]; exact g2 a a18, fun e he => by rw [si_k (by decide), si_k (by decide)]; exact g3 e he, by rw [si_k (by decide), si_k (by decide)]; exact g4, fun p q1 q2 => by rw [si_k (by decide), si_k (by decide)]; exact g5 p q1 (by omega), fun p hp => by rw [si_k (by decide), si_k (by decide)]; exact g6 p (by omega), fun e j j9 j11 j12 => by rw [si_j j12, si_j j9, g2 2 (by decide)], fun e => ?_, fun e => ?_, fun e => ?_, g7⟩
      · rw [si_j (by decide)]
        by_cases ec : e = c
        · rw [ec, si_eq, if_pos rfl, g2 2 (by decide)]
        · rw [si_i ec, if_neg ec, addz, g2 2 (by decide)]
      · by_cases ec : e = c
        · rw [ec, si_eq, if_pos rfl, g2 2 (by decide)]
        · rw [si_i ec, si_i ec, if_neg ec, addz, g2 2 (by decide)]
      · rw [si_j (by decide), si_j (by decide), g2 2 (by decide), if_neg (fun z => by cases z), addz]
    | some b =>
      obtain ⟨hb, hbc⟩ := hr b rfl
      have dl : f_X2_deliver σ1 c (nI (2 * D + G)) (some b) = some (si (si (si σ1 2 c 9 (σ1.1 2 c 9 + nI G)) 2 c 12 (σ1.1 2 c 12 + nI G)) 2 b 11 (σ1.1 2 b 11 + nI D), nI G) := by
        unfold f_X2_deliver f_X2_goodsOf f_X2_toldOf
        rw [Option.bind_some, b1, bnd_eq, bnd_eq, onR_s hb, Option.bind_some, b2, bnd_eq, si_j (show 12 ≠ 9 by decide), si_i hbc, si_i hbc]
      rw [onR_s hb, dl, Option.bind_some] at ad2
      refine ⟨_, ad2, fun a a2 a18 => by rw [si_k a2, si_k a2, si_k a2]; exact g2 a a18, fun e he => by rw [si_k (by decide), si_k (by decide), si_k (by decide)]; exact g3 e he, by rw [si_k (by decide), si_k (by decide), si_k (by decide)]; exact g4, fun p q1 q2 => by rw [si_k (by decide), si_k (by decide), si_k (by decide)]; exact g5 p q1 (by omega), fun p hp => by rw [si_k (by decide), si_k (by decide), si_k (by decide)]; exact g6 p (by omega), fun e j j9 j11 j12 => by rw [si_j j11, si_j j12, si_j j9, g2 2 (by decide)], fun e => ?_, fun e => ?_, fun e => ?_, g7⟩
      · rw [si_j (by decide), si_j (by decide)]
        by_cases ec : e = c
        · rw [ec, si_eq, if_pos rfl, g2 2 (by decide)]
        · rw [si_i ec, if_neg ec, addz, g2 2 (by decide)]
      · rw [si_j (by decide)]
        by_cases ec : e = c
        · rw [ec, si_eq, if_pos rfl, g2 2 (by decide)]
        · rw [si_i ec, si_i ec, if_neg ec, addz, g2 2 (by decide)]
      · by_cases eb : e = b
        · rw [eb, si_eq, if_pos rfl, g2 2 (by decide)]
        · rw [si_i eb, si_j (by decide), si_j (by decide), g2 2 (by decide), if_neg (fun z => eb (by injection z with z; exact z.symm)), addz]
