theorem findL {σ : St} {c : Nat} {b : Bool} (hc : c < 8) (e : σ.1 2 c 1 = bz b) : f_X3_find σ (nI c) = some (if b then some c else none) := by
  unfold f_X3_find chk
  rw [if_pos (nI_pos' (by omega)), if_neg (nleL 8 8 rfl hc (by decide)), if_pos (inbL hc (by decide)), clL (by omega), e]
  cases b
  · rw [if_pos (show bz false = 0 from rfl)]; rfl
  · rw [if_neg (show ¬ bz true = 0 by decide), if_pos (inbL hc (by decide))]; rfl
theorem moveLetters_eq {σ : St} {lv : Nat → Bool} {hp G D : Nat → Nat} {lkx : Nat → Nat → Nat} {bko : Nat → Option Nat} (hlv : ∀ c, c < 8 → σ.1 2 c 1 = bz (lv c)) (h6 : ∀ c, c < 8 → lv c = true → σ.1 2 c 6 = nI (hp c) ∧ 1 ≤ hp c ∧ hp c ≤ 6) (h17 : ∀ c, c < 8 → lv c = true → ∀ p, p < hp c + 2 → lkx c p < 54 ∧ σ.1 17 c p = nI (lkx c p))
    (hV : ∀ c, c < 8 → lv c = true → (σ.1 18 c (hp c + 1) = -1 ∧ G c = 0 ∧ D c = 0) ∨ (G c ≤ 1 ∧ D c ≤ 3 ∧ σ.1 18 c (hp c + 1) = nI (2 * D c + G c))) (hb : ∀ c, c < 8 → lv c = true → (σ.1 2 c 7 = -1 ∧ bko c = none) ∨ ∃ b, b < 8 ∧ b ≠ c ∧ lv b = true ∧ σ.1 2 c 7 = nI b ∧ bko c = some b) :
    ∃ σ2, f_X10_moveLetters σ = some (σ2, nI (sumN (fun c => if lv c then G c else 0) 8)) ∧ (∀ a, a ≠ 2 → a ≠ 15 → a ≠ 18 → σ2.1 a = σ.1 a) ∧ σ2.2 = σ.2 ∧ (∀ e j, j ≠ 9 → j ≠ 11 → j ≠ 12 → σ2.1 2 e j = σ.1 2 e j) ∧
      (∀ c, c < 8 → lv c = false → σ2.1 18 c = σ.1 18 c) ∧ (∀ c, c < 8 → lv c = true → σ2.1 18 c 0 = -1 ∧ (∀ p, 1 ≤ p → p < hp c + 2 → σ2.1 18 c p = σ.1 18 c (p - 1)) ∧ (∀ p, hp c + 2 ≤ p → σ2.1 18 c p = σ.1 18 c p)) ∧
      (∀ l, σ2.1 15 0 l = σ.1 15 0 l + nI (sumN (fun c => if lv c then sumN (fun p => if decide (σ.1 18 c p ≠ -1) then (if l = lkx c p then 1 else 0) else 0) (hp c + 2) else 0) 8)) ∧
      (∀ e, σ2.1 2 e 9 = σ.1 2 e 9 + nI (sumN (fun c => if lv c then (if e = c then G c else 0) else 0) 8)) ∧ (∀ e, σ2.1 2 e 12 = σ.1 2 e 12 + nI (sumN (fun c => if lv c then (if e = c then G c else 0) else 0) 8)) ∧ (∀ e, σ2.1 2 e 11 = σ.1 2 e 11 + nI (sumN (fun c => if lv c then (if bko c = some e then D c else 0) else 0) 8)) := by
  have go : ∀ m t σ1 fu, t + m = 8 → m < fu → (∀ a, a ≠ 2 → a ≠ 15 → a ≠ 18 → σ1.1 a = σ.1 a) → σ1.2 = σ.2 → (∀ e j, j ≠ 9 → j ≠ 11 → j ≠ 12 → σ1.1 2 e j = σ.1 2 e j) →
      (∀ c, c < 8 → (lv c = false ∨ t ≤ c) → σ1.1 18 c = σ.1 18 c) → (∀ c, c < t → lv c = true → σ1.1 18 c 0 = -1 ∧ (∀ p, 1 ≤ p → p < hp c + 2 → σ1.1 18 c p = σ.1 18 c (p - 1)) ∧ (∀ p, hp c + 2 ≤ p → σ1.1 18 c p = σ.1 18 c p)) →
      (∀ l, σ1.1 15 0 l = σ.1 15 0 l + nI (sumN (fun c => if lv c then sumN (fun p => if decide (σ.1 18 c p ≠ -1) then (if l = lkx c p then 1 else 0) else 0) (hp c + 2) else 0) t)) →
      (∀ e, σ1.1 2 e 9 = σ.1 2 e 9 + nI (sumN (fun c => if lv c then (if e = c then G c else 0) else 0) t)) → (∀ e, σ1.1 2 e 12 = σ.1 2 e 12 + nI (sumN (fun c => if lv c then (if e = c then G c else 0) else 0) t)) → (∀ e, σ1.1 2 e 11 = σ.1 2 e 11 + nI (sumN (fun c => if lv c then (if bko c = some e then D c else 0) else 0) t)) →
      ∃ σ2, f_X10_moveLetters_L4 fu σ1 (nI (sumN (fun c => if lv c then G c else 0) t)) (nI t) = some (σ2, nI (sumN (fun c => if lv c then G c else 0) 8)) ∧ (∀ a, a ≠ 2 → a ≠ 15 → a ≠ 18 → σ2.1 a = σ.1 a) ∧ σ2.2 = σ.2 ∧ (∀ e j, j ≠ 9 → j ≠ 11 → j ≠ 12 → σ2.1 2 e j = σ.1 2 e j) ∧
      (∀ c, c < 8 → lv c = false → σ2.1 18 c = σ.1 18 c) ∧ (∀ c, c < 8 → lv c = true → σ2.1 18 c 0 = -1 ∧ (∀ p, 1 ≤ p → p < hp c + 2 → σ2.1 18 c p = σ.1 18 c (p - 1)) ∧ (∀ p, hp c + 2 ≤ p → σ2.1 18 c p = σ.1 18 c p)) ∧
      (∀ l, σ2.1 15 0 l = σ.1 15 0 l + nI (sumN (fun c => if lv c then sumN (fun p => if decide (σ.1 18 c p ≠ -1) then (if l = lkx c p then 1 else 0) else 0) (hp c + 2) else 0) 8)) ∧
      (∀ e, σ2.1 2 e 9 = σ.1 2 e 9 + nI (sumN (fun c => if lv c then (if e = c then G c else 0) else 0) 8)) ∧ (∀ e, σ2.1 2 e 12 = σ.1 2 e 12 + nI (sumN (fun c => if lv c then (if e = c then G c else 0) else 0) 8)) ∧ (∀ e, σ2.1 2 e 11 = σ.1 2 e 11 + nI (sumN (fun c => if lv c then (if bko c = some e then D c else 0) else 0) 8)) := by
    intro m
    induction m with
    | zero =>
      intro t σ1 fu h1 h2 k1 k2 k3 k4 k5 k6 k7 k8 k9
      obtain ⟨fu, rfl⟩ : ∃ j, fu = j + 1 := ⟨fu - 1, by omega⟩
      have e : t = 8 := by omega
      subst e
      refine ⟨σ1, ?_, k1, k2, k3, fun c hc hl => k4 c hc (Or.inl hl), fun c hc hl => k5 c hc hl, k6, k7, k8, k9⟩
      show f_X10_moveLetters_L4b (f_X10_moveLetters_L4 fu) σ1 _ (nI 8) = _
      unfold f_X10_moveLetters_L4b
      rw [if_neg (show ¬ nI 8 < 8 by decide)]
    | succ m ih =>
      intro t σ1 fu h1 h2 k1 k2 k3 k4 k5 k6 k7 k8 k9
      obtain ⟨fu, rfl⟩ : ∃ j, fu = j + 1 := ⟨fu - 1, by omega⟩
      have ht : t < 8 := by omega
      have l8 : nI t < 8 := ltL 8 8 rfl ht (by decide)
      have sm : ∀ f : Nat → Nat, sumN f (t + 1) = sumN f t + f t := fun _ => rfl
      have e1 : ∀ c, c < 8 → σ1.1 2 c 1 = bz (lv c) := fun c hc => (k3 c 1 (by decide) (by decide) (by decide)).trans (hlv c hc)
      have hd : ∀ v, f_X10_moveLetters_L4 (fu + 1) σ1 v (nI t) = f_X10_moveLetters_L4b (f_X10_moveLetters_L4 fu) σ1 v (nI t) := fun _ => rfl
      have i4 := fun σ' => ih (t + 1) σ' fu (by omega) (by omega)
      rw [hd]
      generalize f_X10_moveLetters_L4 fu = K at i4 ⊢
      unfold f_X10_moveLetters_L4b
      rw [if_pos l8, findL ht (e1 t ht), Option.bind_some, nI_1]
      cases hl : lv t
      · rw [if_neg (show ¬ false = true by decide), onR_n]
        have i5 := i4 σ1 k1 k2 k3 (fun c hc z => k4 c hc (z.imp id (fun y => by omega))) (fun c hc hlc => k5 c (by
          rcases Nat.lt_or_ge c t with y | y
          · exact y
          · have : c = t := by omega
            subst this; rw [hl] at hlc; cases hlc) hlc)
        simp only [sm, hl, Bool.false_eq_true, if_false, Nat.add_zero] at i5
        exact i5 k6 k7 k8 k9
      · rw [if_pos (show true = true from rfl), onR_s ht]
        obtain ⟨a6, a1, a2⟩ := h6 t ht hl
        have s6 : σ1.1 2 t 6 = nI (hp t) := (k3 t 6 (by decide) (by decide) (by decide)).trans a6
        have s18 : σ1.1 18 t = σ.1 18 t := k4 t ht (Or.inr (Nat.le_refl _))
        obtain ⟨σu, u1, u2, u3, u4⟩ := useLinks_eq (σ := σ1) (c := t) (lkx := lkx t) a2 s6 (fun p hp => by rw [k1 17 (by decide) (by decide) (by decide)]; exact h17 t ht hl p hp)
        have u7 : σu.1 2 t 7 = σ.1 2 t 7 := by rw [u2 2 (by decide)]; exact k3 t 7 (by decide) (by decide) (by decide)
        have fb : f_X3_find σu (σu.1 2 t 7) = some (bko t) ∧ ∀ b, bko t = some b → b < 8 ∧ b ≠ t := by
          rw [u7]
          rcases hb t ht hl with ⟨z1, z2⟩ | ⟨b, b8, bt, lb, z1, z2⟩
          · rw [z1, z2]
            exact ⟨find_m1 σu, fun b z => by cases z⟩
          · rw [z1, z2, findL b8 (show σu.1 2 b 1 = bz (lv b) by rw [u2 2 (by decide)]; exact e1 b b8), lb]
            exact ⟨rfl, fun b' z => by injection z with z; rw [← z]; exact ⟨b8, bt⟩⟩
        obtain ⟨σ2, v1, v2, v3, v4, v5, v6, v7, v8, v9, v10, v11⟩ := advance_eq (σ := σu) (c := t) (hp := hp t) (G := G t) (D := D t) (r := bko t) ⟨a1, a2⟩ (by rw [u2 2 (by decide)]; exact s6) fb.2 (by rw [u2 18 (by decide), s18]; exact hV t ht hl)
        have gl : (onR 8 (bko t) ((f_X2_advance σu t none).bind fun (σ8, r7) => K σ8 (nI (sumN (fun c => if lv c then G c else 0) t) + r7) (nI (t + 1))) (fun j6 => (f_X2_advance σu t (some j6)).bind fun (σ10, r9) => K σ10 (nI (sumN (fun c => if lv c then G c else 0) t) + r9) (nI (t + 1)))) = K σ2 (nI (sumN (fun c => if lv c then G c else 0) (t + 1))) (nI (t + 1)) := by
          rw [sm, hl, if_pos rfl]
          cases hq : bko t with
          | none =>
            rw [hq] at v1
            rw [onR_n, v1, Option.bind_some]
            dsimp only
            rw [nI_add]
          | some b =>
            rw [hq] at v1
            rw [onR_s (fb.2 b hq).1, v1, Option.bind_some]
            dsimp only
            rw [nI_add]
        rw [u1, Option.bind_some, fb.1, Option.bind_some]
        have i5 := i4 σ2 (fun a a2 a15 a18 => by rw [v2 a a2 a18, u2 a a15]; exact k1 a a2 a15 a18) (v11.trans (u3.trans k2)) (fun e j j9 j11 j12 => by rw [v7 e j j9 j11 j12, u2 2 (by decide)]; exact k3 e j j9 j11 j12) (fun c hc z => by
            have : c ≠ t := by
              intro y
              subst y
              rcases z with z | z
              · rw [hl] at z; cases z
              · omega
            rw [v3 c this, u2 18 (by decide)]
            exact k4 c hc (z.imp id (fun y => by omega))) (fun c hc hlc => by
            by_cases y : c = t
            · subst y
              refine ⟨v4, fun p q1 q2 => ?_, fun p q => ?_⟩
              · rw [v5 p q1 q2, u2 18 (by decide), s18]
              · rw [v6 p q, u2 18 (by decide), s18]
            · rw [v3 c y, u2 18 (by decide)]
              exact k5 c (by omega) hlc)
        have r1 : ∀ l, σ2.1 15 0 l = σ.1 15 0 l + nI (sumN (fun c => if lv c then sumN (fun p => if decide (σ.1 18 c p ≠ -1) then (if l = lkx c p then 1 else 0) else 0) (hp c + 2) else 0) (t + 1)) := by
          intro l
          rw [v2 15 (by decide) (by decide), u4 l, k6 l, adda, s18, sm, hl, if_pos (show true = true from rfl)]
        have r2 : ∀ e, σ2.1 2 e 9 = σ.1 2 e 9 + nI (sumN (fun c => if lv c then (if e = c then G c else 0) else 0) (t + 1)) := by
          intro e
          rw [v8 e, u2 2 (by decide), k7 e, adda, sm, hl, if_pos (show true = true from rfl)]
        have r3 : ∀ e, σ2.1 2 e 12 = σ.1 2 e 12 + nI (sumN (fun c => if lv c then (if e = c then G c else 0) else 0) (t + 1)) := by
          intro e
          rw [v9 e, u2 2 (by decide), k8 e, adda, sm, hl, if_pos (show true = true from rfl)]
        have r4 : ∀ e, σ2.1 2 e 11 = σ.1 2 e 11 + nI (sumN (fun c => if lv c then (if bko c = some e then D c else 0) else 0) (t + 1)) := by
          intro e
          rw [v10 e, u2 2 (by decide), k9 e, adda, sm, hl, if_pos (show true = true from rfl)]
        obtain ⟨σ3, w1, w2⟩ := i5 r1 r2 r3 r4
        exact ⟨σ3, gl.trans w1, w2⟩
  exact go 8 0 σ FU (by omega) (FU_lt (by omega)) (fun _ _ _ _ => rfl) rfl (fun _ _ _ _ _ => rfl) (fun _ _ _ => rfl) (fun c hc => by omega) (fun _ => (addz _).symm) (fun _ => (addz _).symm) (fun _ => (addz _).symm) (fun _ => (addz _).symm)
