/-! the law, over a relation of the two states that every call keeps -/
def ok_letter (Rel : Nat → St → St → Prop) : Prop := ∀ k σ μ, k < 512 → Rel k σ μ → ∀ (p1 : Int32), ∃ (σ2 : St) (μ2 : St) (r : Int32), f_X11_letter σ p1 = some (σ2, r) ∧ f_X12_letter μ p1 = some (μ2, r) ∧ Rel (k + 1) σ2 μ2
def ok_blank (Rel : Nat → St → St → Prop) : Prop := ∀ k σ μ, k < 512 → Rel k σ μ → ∃ (σ2 : St) (μ2 : St) (r : Int32), f_X11_blank σ = some (σ2, r) ∧ f_X12_blank μ = some (μ2, r) ∧ Rel (k + 1) σ2 μ2
def ok_fault (Rel : Nat → St → St → Prop) : Prop := ∀ k σ μ, k < 512 → Rel k σ μ → ∃ (σ2 : St) (μ2 : St) (r : Int32), f_X11_fault σ = some (σ2, r) ∧ f_X12_fault μ = some (μ2, r) ∧ Rel (k + 1) σ2 μ2
def ok_chip (Rel : Nat → St → St → Prop) : Prop := ∀ k σ μ, k < 512 → Rel k σ μ → ∃ (σ2 : St) (μ2 : St) (r : Int32), f_X11_chip σ = some (σ2, r) ∧ f_X12_chip μ = some (μ2, r) ∧ Rel (k + 1) σ2 μ2
def ok_about (Rel : Nat → St → St → Prop) : Prop := ∀ k σ μ, k < 512 → Rel k σ μ → ∀ (p1 : Int32), ∃ (r : Int32), f_X11_about σ p1 = some r ∧ f_X12_about μ p1 = some r ∧ Rel (k + 1) σ μ
def ok_link (Rel : Nat → St → St → Prop) : Prop := ∀ k σ μ, k < 512 → Rel k σ μ → ∀ (p1 p2 : Int32), ∃ (r : Int32), f_X11_link σ p1 p2 = some r ∧ f_X12_link μ p1 p2 = some r ∧ Rel (k + 1) σ μ
def ok_slot (Rel : Nat → St → St → Prop) : Prop := ∀ k σ μ, k < 512 → Rel k σ μ → ∀ (p1 p2 : Int32), ∃ (r : Int32), f_X11_slot σ p1 p2 = some r ∧ f_X12_slot μ p1 p2 = some r ∧ Rel (k + 1) σ μ
def ok_cut (Rel : Nat → St → St → Prop) : Prop := ∀ k σ μ, k < 512 → Rel k σ μ → ∀ (p1 p2 : Int32), isZ p2 → ∃ (σ2 : St) (μ2 : St) (r : Int32), f_X11_cut σ p1 p2 = some (σ2, r) ∧ f_X12_cut μ p1 p2 = some (μ2, r) ∧ Rel (k + 1) σ2 μ2
def ok_open (Rel : Nat → St → St → Prop) : Prop := ∀ k σ μ, k < 512 → Rel k σ μ → ∀ (p1 p2 p3 p4 p5 : Int32), ∃ (σ2 : St) (μ2 : St) (r : Int32), f_X11_open σ p1 p2 p3 p4 p5 = some (σ2, r) ∧ f_X12_open μ p1 p2 p3 p4 p5 = some (μ2, r) ∧ Rel (k + 1) σ2 μ2
def ok_as (Rel : Nat → St → St → Prop) : Prop := ∀ k σ μ, k < 512 → Rel k σ μ → ∀ (p1 p2 : Int32), ∃ (r : Int32), f_X11_as σ p1 p2 = some r ∧ f_X12_as μ p1 p2 = some r ∧ Rel (k + 1) σ μ
def ok_circuit (Rel : Nat → St → St → Prop) : Prop := ∀ k σ μ, k < 512 → Rel k σ μ → ∀ (p1 p2 : Int32), ∃ (r : Int32), f_X11_circuit σ p1 p2 = some r ∧ f_X12_circuit μ p1 p2 = some r ∧ Rel (k + 1) σ μ
def ok_route (Rel : Nat → St → St → Prop) : Prop := ∀ k σ μ, k < 512 → Rel k σ μ → ∀ (p1 p2 : Int32), ∃ (r : Int32), f_X11_route σ p1 p2 = some r ∧ f_X12_route μ p1 p2 = some r ∧ Rel (k + 1) σ μ
def ok_start (Rel : Nat → St → St → Prop) : Prop := ∀ k σ μ, k < 512 → Rel k σ μ → ∀ (p1 p2 : Int32), ∃ (r : Int32), f_X11_start σ p1 p2 = some r ∧ f_X12_start μ p1 p2 = some r ∧ Rel (k + 1) σ μ
def ok_pair (Rel : Nat → St → St → Prop) : Prop := ∀ k σ μ, k < 512 → Rel k σ μ → ∀ (p1 p2 : Int32), ∃ (σ2 : St) (μ2 : St) (r : Int32), f_X11_pair σ p1 p2 = some (σ2, r) ∧ f_X12_pair μ p1 p2 = some (μ2, r) ∧ Rel (k + 1) σ2 μ2
def ok_move (Rel : Nat → St → St → Prop) : Prop := ∀ k σ μ, k < 512 → Rel k σ μ → ∀ (p1 : Int32), ∃ (σ2 : St) (μ2 : St) (r : Int32), f_X11_move σ p1 = some (σ2, r) ∧ f_X12_move μ p1 = some (μ2, r) ∧ Rel (k + 1) σ2 μ2
def ok_close (Rel : Nat → St → St → Prop) : Prop := ∀ k σ μ, k < 512 → Rel k σ μ → ∀ (p1 : Int32), ∃ (σ2 : St) (μ2 : St) (r : Int32), f_X11_close σ p1 = some (σ2, r) ∧ f_X12_close μ p1 = some (μ2, r) ∧ Rel (k + 1) σ2 μ2
def ok_feed (Rel : Nat → St → St → Prop) : Prop := ∀ k σ μ, k < 512 → Rel k σ μ → ∀ (p1 p2 : Int32), ∃ (σ2 : St) (μ2 : St) (r : Int32), f_X11_feed σ p1 p2 = some (σ2, r) ∧ f_X12_feed μ p1 p2 = some (μ2, r) ∧ Rel (k + 1) σ2 μ2
def ok_take (Rel : Nat → St → St → Prop) : Prop := ∀ k σ μ, k < 512 → Rel k σ μ → ∀ (p1 p2 : Int32), ∃ (σ2 : St) (μ2 : St) (r : Int32), f_X11_take σ p1 p2 = some (σ2, r) ∧ f_X12_take μ p1 p2 = some (μ2, r) ∧ Rel (k + 1) σ2 μ2
def ok_fastest (Rel : Nat → St → St → Prop) : Prop := ∀ k σ μ, k < 512 → Rel k σ μ → ∃ (r : Int32), f_X11_fastest σ = some r ∧ f_X12_fastest μ = some r ∧ Rel (k + 1) σ μ
def ok_stray (Rel : Nat → St → St → Prop) : Prop := ∀ k σ μ, k < 512 → Rel k σ μ → ∀ (p1 p2 p3 : Int32), isZ p3 → ∃ (σ2 : St) (μ2 : St) (r : Int32), f_X11_stray σ p1 p2 p3 = some (σ2, r) ∧ f_X12_stray μ p1 p2 p3 = some (μ2, r) ∧ Rel (k + 1) σ2 μ2
def ok_straying (Rel : Nat → St → St → Prop) : Prop := ∀ k σ μ, k < 512 → Rel k σ μ → ∀ (p1 p2 : Int32), ∃ (r : Int32), f_X11_straying σ p1 p2 = some r ∧ f_X12_straying μ p1 p2 = some r ∧ Rel (k + 1) σ μ
def ok_arrived (Rel : Nat → St → St → Prop) : Prop := ∀ k σ μ, k < 512 → Rel k σ μ → ∀ (p1 p2 : Int32), isZ p1 → ∃ (r : Int32), f_X11_arrived σ p1 p2 = some r ∧ f_X12_arrived μ p1 p2 = some r ∧ Rel (k + 1) σ μ
def ok_faster (Rel : Nat → St → St → Prop) : Prop := ∀ k σ μ, k < 512 → Rel k σ μ → ∃ (r : Int32), f_X11_faster σ = some r ∧ f_X12_faster μ = some r ∧ Rel (k + 1) σ μ
def ok_run (Rel : Nat → St → St → Prop) : Prop := ∀ k σ μ, k < 512 → Rel k σ μ → ∀ (p1 : Int32), ∃ (σ2 : St) (μ2 : St) (r : Int32), f_X11_run σ p1 = some (σ2, r) ∧ f_X12_run μ p1 = some (μ2, r) ∧ Rel (k + 1) σ2 μ2
def ok_storm (Rel : Nat → St → St → Prop) : Prop := ∀ k σ μ, k < 512 → Rel k σ μ → ∀ (p1 p2 : Int32), ∃ (σ2 : St) (μ2 : St) (r : Int32), f_X11_storm σ p1 p2 = some (σ2, r) ∧ f_X12_storm μ p1 p2 = some (μ2, r) ∧ Rel (k + 1) σ2 μ2
def ok_count (Rel : Nat → St → St → Prop) : Prop := ∀ k σ μ, k < 512 → Rel k σ μ → ∀ (p1 : Int32), ∃ (r : Int32), f_X11_count σ p1 = some r ∧ f_X12_count μ p1 = some r ∧ Rel (k + 1) σ μ
def ok_digest (Rel : Nat → St → St → Prop) : Prop := ∀ k σ μ, k < 512 → Rel k σ μ → ∃ (μ2 : St) (r : Int64), f_X11_digest σ = some r ∧ f_X12_digest μ = some (μ2, r) ∧ Rel (k + 1) σ μ2
def OKS (Rel : Nat → St → St → Prop) : Prop := ok_letter Rel ∧ ok_blank Rel ∧ ok_fault Rel ∧ ok_chip Rel ∧ ok_about Rel ∧ ok_link Rel ∧ ok_slot Rel ∧ ok_cut Rel ∧ ok_open Rel ∧ ok_as Rel ∧ ok_circuit Rel ∧ ok_route Rel ∧ ok_start Rel ∧ ok_pair Rel ∧ ok_move Rel ∧ ok_close Rel ∧ ok_feed Rel ∧ ok_take Rel ∧ ok_fastest Rel ∧ ok_stray Rel ∧ ok_straying Rel ∧ ok_arrived Rel ∧ ok_faster Rel ∧ ok_run Rel ∧ ok_storm Rel ∧ ok_count Rel ∧ ok_digest Rel ∧ ∀ k σ μ, k < 512 → Rel k σ μ → Rel (k + 1) σ μ
theorem lw_idx {k L j : Nat} (h : 6 * k + 6 ≤ L) (hL : L ≤ 3072) (hj : j < 6) : vp_in (nI (6 * k) + nI j) L := by
  have e : nI (6 * k) + nI j = nI (6 * k + j) := by
    simp only [nI]
    rw [Int32.ofNat_add]
  rw [e]
  exact vp_in_nI (by omega) (by omega)
theorem lw_go {k L : Nat} (hL : L ≤ 3072) (hk : k ≤ 512) (h : ¬ Int32.ofNat L - 6 < nI (6 * k)) : 6 * k + 6 ≤ L := by
  have e1 : (Int32.ofNat L).toInt = L := Int32.toInt_ofNat_of_lt (by omega)
  have e2 : (nI (6 * k)).toInt = ((6 * k : Nat) : Int) := Int32.toInt_ofNat_of_lt (by omega)
  rw [Int32.lt_iff_toInt_lt, Int32.toInt_sub, e1, e2] at h
  have e3 : (6 : Int32).toInt = 6 := by decide
  rw [e3, Int.bmod_eq_of_le (by omega) (by omega)] at h
  omega
set_option maxHeartbeats 4000000 in
set_option maxRecDepth 100000 in
theorem lw_letter {E : EV} {l : Launch} {D : va_G} {cy : Nat → ClassId} {b L : Nat} {xs : Nat → Int32} {Ax Am : Nat → Nat} {Rel : Nat → St → St → Prop} {mc ms : Nat} (hL : L ≤ 3072) (hAx : AdOK 58 Ax) (hAm : AdOK 37 Am) (yl : YL E l D) (g : YG E cy cL_law RL 4 room_1) (yx : YX E b L xs) (ok : OKS Rel) (hmc : mc ≤ 600000) (hms : ms ≤ 7302250) {k : Nat} {σ μ : St} (hk : k < 512) (hR : Rel k σ μ) (hg : 6 * k + 6 ≤ L) (ih : ∀ σ μ, Rel (k + 1) σ μ → XA E (wX cy Ax σ ++ wM cy Am μ) mc ms 18 [(0, .ref b), (1, .ref (Ax 0)), (2, .ref (Am 0)), (3, .int (nI (6 * (k + 1))))] []) : XA E (wX cy Ax σ ++ wM cy Am μ) mc ms 156 [(0, .ref b), (1, .ref (Ax 0)), (2, .ref (Am 0)), (3, .int (nI (6 * k)))] [] := by
  refine y_aload_n g 1 dL_law_156 rfl rfl ?_
  refine y_aload_n g 0 dL_law_157 rfl rfl ?_
  refine y_iload_n g 3 dL_law_158 rfl rfl ?_
  refine y_iconst g 1 dL_law_159 (by decide) ?_
  refine y_iadd g dL_law_160 ?_
  refine y_sld g yx (lw_idx (j := 1) hg hL (by decide)) dL_law_161 ?_
  obtain ⟨σ2, μ2, r, hx1, hm1, hR2⟩ := ok.1 k σ μ hk hR ((xs (Int32.toNatClampNeg ((nI (6 * k)) + 1))))
  refine z_callX g yl [.int (xs (Int32.toNatClampNeg ((nI (6 * k)) + 1)))] [] [.int r] (c_X11_letter hAx hx1) mf_X11_letter im_X11_letter se_X11_letter ml_L_13 (Nat.le_of_ble_eq_true rfl) (Nat.le_of_ble_eq_true rfl) hmc hms rfl (Nat.le_of_ble_eq_true rfl) dL_law_162 rfl rfl ?_
  refine y_aload_n g 2 dL_law_165 rfl rfl ?_
  refine y_aload_n g 0 dL_law_166 rfl rfl ?_
  refine y_iload_n g 3 dL_law_167 rfl rfl ?_
  refine y_iconst g 1 dL_law_168 (by decide) ?_
  refine y_iadd g dL_law_169 ?_
  refine y_sld g yx (lw_idx (j := 1) hg hL (by decide)) dL_law_170 ?_
  refine z_callM g yl [.int (xs (Int32.toNatClampNeg ((nI (6 * k)) + 1)))] [.int r] [.int r, .int r] (c_X12_letter hAm hm1) mf_X12_letter im_X12_letter se_X12_letter ml_L_17 (Nat.le_of_ble_eq_true rfl) (Nat.le_of_ble_eq_true rfl) hmc hms rfl (Nat.le_of_ble_eq_true rfl) dL_law_171 rfl rfl ?_
  refine y_icmp_eq_t g 956 dL_law_174 (by decide) rfl ?_
  refine y_iinc g 3 (nI (6 * (k + 1))) (lv' := [(3, .int (nI (6 * (k + 1)))), (0, .ref b), (1, .ref (Ax 0)), (2, .ref (Am 0))]) dL_law_956 rfl (by rw [show Int32.ofInt 6 = Int32.ofNat 6 from by decide]; simp only [nI]; rw [← Int32.ofNat_add, Nat.mul_succ]) (by decide) rfl ?_
  refine y_goto g 18 dL_law_959 (by decide) ?_
  exact y_sub [1, 2, 3, 0] rfl (ih _ _ hR2)
set_option maxHeartbeats 4000000 in
set_option maxRecDepth 100000 in
theorem lw_blank {E : EV} {l : Launch} {D : va_G} {cy : Nat → ClassId} {b L : Nat} {xs : Nat → Int32} {Ax Am : Nat → Nat} {Rel : Nat → St → St → Prop} {mc ms : Nat} (hL : L ≤ 3072) (hAx : AdOK 58 Ax) (hAm : AdOK 37 Am) (yl : YL E l D) (g : YG E cy cL_law RL 4 room_1) (yx : YX E b L xs) (ok : OKS Rel) (hmc : mc ≤ 600000) (hms : ms ≤ 7302250) {k : Nat} {σ μ : St} (hk : k < 512) (hR : Rel k σ μ) (hg : 6 * k + 6 ≤ L) (ih : ∀ σ μ, Rel (k + 1) σ μ → XA E (wX cy Ax σ ++ wM cy Am μ) mc ms 18 [(0, .ref b), (1, .ref (Ax 0)), (2, .ref (Am 0)), (3, .int (nI (6 * (k + 1))))] []) : XA E (wX cy Ax σ ++ wM cy Am μ) mc ms 179 [(0, .ref b), (1, .ref (Ax 0)), (2, .ref (Am 0)), (3, .int (nI (6 * k)))] [] := by
  refine y_aload_n g 1 dL_law_179 rfl rfl ?_
  obtain ⟨σ2, μ2, r, hx1, hm1, hR2⟩ := ok.2.1 k σ μ hk hR 
  refine z_callX g yl [] [] [.int r] (c_X11_blank hAx hx1) mf_X11_blank im_X11_blank se_X11_blank ml_L_18 (Nat.le_of_ble_eq_true rfl) (Nat.le_of_ble_eq_true rfl) hmc hms rfl (Nat.le_of_ble_eq_true rfl) dL_law_180 rfl rfl ?_
  refine y_aload_n g 2 dL_law_183 rfl rfl ?_
  refine z_callM g yl [] [.int r] [.int r, .int r] (c_X12_blank hAm hm1) mf_X12_blank im_X12_blank se_X12_blank ml_L_22 (Nat.le_of_ble_eq_true rfl) (Nat.le_of_ble_eq_true rfl) hmc hms rfl (Nat.le_of_ble_eq_true rfl) dL_law_184 rfl rfl ?_
  refine y_icmp_eq_t g 956 dL_law_187 (by decide) rfl ?_
  refine y_iinc g 3 (nI (6 * (k + 1))) (lv' := [(3, .int (nI (6 * (k + 1)))), (0, .ref b), (1, .ref (Ax 0)), (2, .ref (Am 0))]) dL_law_956 rfl (by rw [show Int32.ofInt 6 = Int32.ofNat 6 from by decide]; simp only [nI]; rw [← Int32.ofNat_add, Nat.mul_succ]) (by decide) rfl ?_
  refine y_goto g 18 dL_law_959 (by decide) ?_
  exact y_sub [1, 2, 3, 0] rfl (ih _ _ hR2)
set_option maxHeartbeats 4000000 in
set_option maxRecDepth 100000 in
theorem lw_fault {E : EV} {l : Launch} {D : va_G} {cy : Nat → ClassId} {b L : Nat} {xs : Nat → Int32} {Ax Am : Nat → Nat} {Rel : Nat → St → St → Prop} {mc ms : Nat} (hL : L ≤ 3072) (hAx : AdOK 58 Ax) (hAm : AdOK 37 Am) (yl : YL E l D) (g : YG E cy cL_law RL 4 room_1) (yx : YX E b L xs) (ok : OKS Rel) (hmc : mc ≤ 600000) (hms : ms ≤ 7302250) {k : Nat} {σ μ : St} (hk : k < 512) (hR : Rel k σ μ) (hg : 6 * k + 6 ≤ L) (ih : ∀ σ μ, Rel (k + 1) σ μ → XA E (wX cy Ax σ ++ wM cy Am μ) mc ms 18 [(0, .ref b), (1, .ref (Ax 0)), (2, .ref (Am 0)), (3, .int (nI (6 * (k + 1))))] []) : XA E (wX cy Ax σ ++ wM cy Am μ) mc ms 192 [(0, .ref b), (1, .ref (Ax 0)), (2, .ref (Am 0)), (3, .int (nI (6 * k)))] [] := by
  refine y_aload_n g 1 dL_law_192 rfl rfl ?_
  obtain ⟨σ2, μ2, r, hx1, hm1, hR2⟩ := ok.2.2.1 k σ μ hk hR 
  refine z_callX g yl [] [] [.int r] (c_X11_fault hAx hx1) mf_X11_fault im_X11_fault se_X11_fault ml_L_23 (Nat.le_of_ble_eq_true rfl) (Nat.le_of_ble_eq_true rfl) hmc hms rfl (Nat.le_of_ble_eq_true rfl) dL_law_193 rfl rfl ?_
  refine y_aload_n g 2 dL_law_196 rfl rfl ?_
  refine z_callM g yl [] [.int r] [.int r, .int r] (c_X12_fault hAm hm1) mf_X12_fault im_X12_fault se_X12_fault ml_L_26 (Nat.le_of_ble_eq_true rfl) (Nat.le_of_ble_eq_true rfl) hmc hms rfl (Nat.le_of_ble_eq_true rfl) dL_law_197 rfl rfl ?_
  refine y_icmp_eq_t g 956 dL_law_200 (by decide) rfl ?_
  refine y_iinc g 3 (nI (6 * (k + 1))) (lv' := [(3, .int (nI (6 * (k + 1)))), (0, .ref b), (1, .ref (Ax 0)), (2, .ref (Am 0))]) dL_law_956 rfl (by rw [show Int32.ofInt 6 = Int32.ofNat 6 from by decide]; simp only [nI]; rw [← Int32.ofNat_add, Nat.mul_succ]) (by decide) rfl ?_
  refine y_goto g 18 dL_law_959 (by decide) ?_
  exact y_sub [1, 2, 3, 0] rfl (ih _ _ hR2)
set_option maxHeartbeats 4000000 in
set_option maxRecDepth 100000 in
theorem lw_chip {E : EV} {l : Launch} {D : va_G} {cy : Nat → ClassId} {b L : Nat} {xs : Nat → Int32} {Ax Am : Nat → Nat} {Rel : Nat → St → St → Prop} {mc ms : Nat} (hL : L ≤ 3072) (hAx : AdOK 58 Ax) (hAm : AdOK 37 Am) (yl : YL E l D) (g : YG E cy cL_law RL 4 room_1) (yx : YX E b L xs) (ok : OKS Rel) (hmc : mc ≤ 600000) (hms : ms ≤ 7302250) {k : Nat} {σ μ : St} (hk : k < 512) (hR : Rel k σ μ) (hg : 6 * k + 6 ≤ L) (ih : ∀ σ μ, Rel (k + 1) σ μ → XA E (wX cy Ax σ ++ wM cy Am μ) mc ms 18 [(0, .ref b), (1, .ref (Ax 0)), (2, .ref (Am 0)), (3, .int (nI (6 * (k + 1))))] []) : XA E (wX cy Ax σ ++ wM cy Am μ) mc ms 205 [(0, .ref b), (1, .ref (Ax 0)), (2, .ref (Am 0)), (3, .int (nI (6 * k)))] [] := by
  refine y_aload_n g 1 dL_law_205 rfl rfl ?_
  obtain ⟨σ2, μ2, r, hx1, hm1, hR2⟩ := ok.2.2.2.1 k σ μ hk hR 
  refine z_callX g yl [] [] [.int r] (c_X11_chip hAx hx1) mf_X11_chip im_X11_chip se_X11_chip ml_L_27 (Nat.le_of_ble_eq_true rfl) (Nat.le_of_ble_eq_true rfl) hmc hms rfl (Nat.le_of_ble_eq_true rfl) dL_law_206 rfl rfl ?_
  refine y_aload_n g 2 dL_law_209 rfl rfl ?_
  refine z_callM g yl [] [.int r] [.int r, .int r] (c_X12_chip hAm hm1) mf_X12_chip im_X12_chip se_X12_chip ml_L_30 (Nat.le_of_ble_eq_true rfl) (Nat.le_of_ble_eq_true rfl) hmc hms rfl (Nat.le_of_ble_eq_true rfl) dL_law_210 rfl rfl ?_
  refine y_icmp_eq_t g 956 dL_law_213 (by decide) rfl ?_
  refine y_iinc g 3 (nI (6 * (k + 1))) (lv' := [(3, .int (nI (6 * (k + 1)))), (0, .ref b), (1, .ref (Ax 0)), (2, .ref (Am 0))]) dL_law_956 rfl (by rw [show Int32.ofInt 6 = Int32.ofNat 6 from by decide]; simp only [nI]; rw [← Int32.ofNat_add, Nat.mul_succ]) (by decide) rfl ?_
  refine y_goto g 18 dL_law_959 (by decide) ?_
  exact y_sub [1, 2, 3, 0] rfl (ih _ _ hR2)
set_option maxHeartbeats 4000000 in
set_option maxRecDepth 100000 in
theorem lw_about {E : EV} {l : Launch} {D : va_G} {cy : Nat → ClassId} {b L : Nat} {xs : Nat → Int32} {Ax Am : Nat → Nat} {Rel : Nat → St → St → Prop} {mc ms : Nat} (hL : L ≤ 3072) (hAx : AdOK 58 Ax) (hAm : AdOK 37 Am) (yl : YL E l D) (g : YG E cy cL_law RL 4 room_1) (yx : YX E b L xs) (ok : OKS Rel) (hmc : mc ≤ 600000) (hms : ms ≤ 7302250) {k : Nat} {σ μ : St} (hk : k < 512) (hR : Rel k σ μ) (hg : 6 * k + 6 ≤ L) (ih : ∀ σ μ, Rel (k + 1) σ μ → XA E (wX cy Ax σ ++ wM cy Am μ) mc ms 18 [(0, .ref b), (1, .ref (Ax 0)), (2, .ref (Am 0)), (3, .int (nI (6 * (k + 1))))] []) : XA E (wX cy Ax σ ++ wM cy Am μ) mc ms 218 [(0, .ref b), (1, .ref (Ax 0)), (2, .ref (Am 0)), (3, .int (nI (6 * k)))] [] := by
  refine y_aload_n g 1 dL_law_218 rfl rfl ?_
  refine y_aload_n g 0 dL_law_219 rfl rfl ?_
  refine y_iload_n g 3 dL_law_220 rfl rfl ?_
  refine y_iconst g 1 dL_law_221 (by decide) ?_
  refine y_iadd g dL_law_222 ?_
  refine y_sld g yx (lw_idx (j := 1) hg hL (by decide)) dL_law_223 ?_
  obtain ⟨r, hx1, hm1, hR2⟩ := ok.2.2.2.2.1 k σ μ hk hR ((xs (Int32.toNatClampNeg ((nI (6 * k)) + 1))))
  refine z_callX g yl [.int (xs (Int32.toNatClampNeg ((nI (6 * k)) + 1)))] [] [.int r] (c_X11_about hAx hx1) mf_X11_about im_X11_about se_X11_about ml_L_31 (Nat.le_of_ble_eq_true rfl) (Nat.le_of_ble_eq_true rfl) hmc hms rfl (Nat.le_of_ble_eq_true rfl) dL_law_224 rfl rfl ?_
  refine y_aload_n g 2 dL_law_227 rfl rfl ?_
  refine y_aload_n g 0 dL_law_228 rfl rfl ?_
  refine y_iload_n g 3 dL_law_229 rfl rfl ?_
  refine y_iconst g 1 dL_law_230 (by decide) ?_
  refine y_iadd g dL_law_231 ?_
  refine y_sld g yx (lw_idx (j := 1) hg hL (by decide)) dL_law_232 ?_
  refine z_callM g yl [.int (xs (Int32.toNatClampNeg ((nI (6 * k)) + 1)))] [.int r] [.int r, .int r] (c_X12_about hAm hm1) mf_X12_about im_X12_about se_X12_about ml_L_34 (Nat.le_of_ble_eq_true rfl) (Nat.le_of_ble_eq_true rfl) hmc hms rfl (Nat.le_of_ble_eq_true rfl) dL_law_233 rfl rfl ?_
  refine y_icmp_eq_t g 956 dL_law_236 (by decide) rfl ?_
  refine y_iinc g 3 (nI (6 * (k + 1))) (lv' := [(3, .int (nI (6 * (k + 1)))), (0, .ref b), (1, .ref (Ax 0)), (2, .ref (Am 0))]) dL_law_956 rfl (by rw [show Int32.ofInt 6 = Int32.ofNat 6 from by decide]; simp only [nI]; rw [← Int32.ofNat_add, Nat.mul_succ]) (by decide) rfl ?_
  refine y_goto g 18 dL_law_959 (by decide) ?_
  exact y_sub [1, 2, 3, 0] rfl (ih _ _ hR2)
set_option maxHeartbeats 4000000 in
set_option maxRecDepth 100000 in
theorem lw_link {E : EV} {l : Launch} {D : va_G} {cy : Nat → ClassId} {b L : Nat} {xs : Nat → Int32} {Ax Am : Nat → Nat} {Rel : Nat → St → St → Prop} {mc ms : Nat} (hL : L ≤ 3072) (hAx : AdOK 58 Ax) (hAm : AdOK 37 Am) (yl : YL E l D) (g : YG E cy cL_law RL 4 room_1) (yx : YX E b L xs) (ok : OKS Rel) (hmc : mc ≤ 600000) (hms : ms ≤ 7302250) {k : Nat} {σ μ : St} (hk : k < 512) (hR : Rel k σ μ) (hg : 6 * k + 6 ≤ L) (ih : ∀ σ μ, Rel (k + 1) σ μ → XA E (wX cy Ax σ ++ wM cy Am μ) mc ms 18 [(0, .ref b), (1, .ref (Ax 0)), (2, .ref (Am 0)), (3, .int (nI (6 * (k + 1))))] []) : XA E (wX cy Ax σ ++ wM cy Am μ) mc ms 241 [(0, .ref b), (1, .ref (Ax 0)), (2, .ref (Am 0)), (3, .int (nI (6 * k)))] [] := by
  refine y_aload_n g 1 dL_law_241 rfl rfl ?_
  refine y_aload_n g 0 dL_law_242 rfl rfl ?_
  refine y_iload_n g 3 dL_law_243 rfl rfl ?_
  refine y_iconst g 1 dL_law_244 (by decide) ?_
  refine y_iadd g dL_law_245 ?_
  refine y_sld g yx (lw_idx (j := 1) hg hL (by decide)) dL_law_246 ?_
  refine y_aload_n g 0 dL_law_247 rfl rfl ?_
  refine y_iload_n g 3 dL_law_248 rfl rfl ?_
  refine y_iconst g 2 dL_law_249 (by decide) ?_
  refine y_iadd g dL_law_250 ?_
  refine y_sld g yx (lw_idx (j := 2) hg hL (by decide)) dL_law_251 ?_
  obtain ⟨r, hx1, hm1, hR2⟩ := ok.2.2.2.2.2.1 k σ μ hk hR ((xs (Int32.toNatClampNeg ((nI (6 * k)) + 1)))) ((xs (Int32.toNatClampNeg ((nI (6 * k)) + 2))))
  refine z_callX g yl [.int (xs (Int32.toNatClampNeg ((nI (6 * k)) + 1))), .int (xs (Int32.toNatClampNeg ((nI (6 * k)) + 2)))] [] [.int r] (c_X11_link hAx hx1) mf_X11_link im_X11_link se_X11_link ml_L_35 (Nat.le_of_ble_eq_true rfl) (Nat.le_of_ble_eq_true rfl) hmc hms rfl (Nat.le_of_ble_eq_true rfl) dL_law_252 rfl rfl ?_
  refine y_aload_n g 2 dL_law_255 rfl rfl ?_
  refine y_aload_n g 0 dL_law_256 rfl rfl ?_
  refine y_iload_n g 3 dL_law_257 rfl rfl ?_
  refine y_iconst g 1 dL_law_258 (by decide) ?_
  refine y_iadd g dL_law_259 ?_
  refine y_sld g yx (lw_idx (j := 1) hg hL (by decide)) dL_law_260 ?_
  refine y_aload_n g 0 dL_law_261 rfl rfl ?_
  refine y_iload_n g 3 dL_law_262 rfl rfl ?_
  refine y_iconst g 2 dL_law_263 (by decide) ?_
  refine y_iadd g dL_law_264 ?_
  refine y_sld g yx (lw_idx (j := 2) hg hL (by decide)) dL_law_265 ?_
  refine z_callM g yl [.int (xs (Int32.toNatClampNeg ((nI (6 * k)) + 1))), .int (xs (Int32.toNatClampNeg ((nI (6 * k)) + 2)))] [.int r] [.int r, .int r] (c_X12_link hAm hm1) mf_X12_link im_X12_link se_X12_link ml_L_39 (Nat.le_of_ble_eq_true rfl) (Nat.le_of_ble_eq_true rfl) hmc hms rfl (Nat.le_of_ble_eq_true rfl) dL_law_266 rfl rfl ?_
  refine y_icmp_eq_t g 956 dL_law_269 (by decide) rfl ?_
  refine y_iinc g 3 (nI (6 * (k + 1))) (lv' := [(3, .int (nI (6 * (k + 1)))), (0, .ref b), (1, .ref (Ax 0)), (2, .ref (Am 0))]) dL_law_956 rfl (by rw [show Int32.ofInt 6 = Int32.ofNat 6 from by decide]; simp only [nI]; rw [← Int32.ofNat_add, Nat.mul_succ]) (by decide) rfl ?_
  refine y_goto g 18 dL_law_959 (by decide) ?_
  exact y_sub [1, 2, 3, 0] rfl (ih _ _ hR2)
set_option maxHeartbeats 4000000 in
set_option maxRecDepth 100000 in
theorem lw_slot {E : EV} {l : Launch} {D : va_G} {cy : Nat → ClassId} {b L : Nat} {xs : Nat → Int32} {Ax Am : Nat → Nat} {Rel : Nat → St → St → Prop} {mc ms : Nat} (hL : L ≤ 3072) (hAx : AdOK 58 Ax) (hAm : AdOK 37 Am) (yl : YL E l D) (g : YG E cy cL_law RL 4 room_1) (yx : YX E b L xs) (ok : OKS Rel) (hmc : mc ≤ 600000) (hms : ms ≤ 7302250) {k : Nat} {σ μ : St} (hk : k < 512) (hR : Rel k σ μ) (hg : 6 * k + 6 ≤ L) (ih : ∀ σ μ, Rel (k + 1) σ μ → XA E (wX cy Ax σ ++ wM cy Am μ) mc ms 18 [(0, .ref b), (1, .ref (Ax 0)), (2, .ref (Am 0)), (3, .int (nI (6 * (k + 1))))] []) : XA E (wX cy Ax σ ++ wM cy Am μ) mc ms 274 [(0, .ref b), (1, .ref (Ax 0)), (2, .ref (Am 0)), (3, .int (nI (6 * k)))] [] := by
  refine y_aload_n g 1 dL_law_274 rfl rfl ?_
  refine y_aload_n g 0 dL_law_275 rfl rfl ?_
  refine y_iload_n g 3 dL_law_276 rfl rfl ?_
  refine y_iconst g 1 dL_law_277 (by decide) ?_
  refine y_iadd g dL_law_278 ?_
  refine y_sld g yx (lw_idx (j := 1) hg hL (by decide)) dL_law_279 ?_
  refine y_aload_n g 0 dL_law_280 rfl rfl ?_
  refine y_iload_n g 3 dL_law_281 rfl rfl ?_
  refine y_iconst g 2 dL_law_282 (by decide) ?_
  refine y_iadd g dL_law_283 ?_
  refine y_sld g yx (lw_idx (j := 2) hg hL (by decide)) dL_law_284 ?_
  obtain ⟨r, hx1, hm1, hR2⟩ := ok.2.2.2.2.2.2.1 k σ μ hk hR ((xs (Int32.toNatClampNeg ((nI (6 * k)) + 1)))) ((xs (Int32.toNatClampNeg ((nI (6 * k)) + 2))))
  refine z_callX g yl [.int (xs (Int32.toNatClampNeg ((nI (6 * k)) + 1))), .int (xs (Int32.toNatClampNeg ((nI (6 * k)) + 2)))] [] [.int r] (c_X11_slot hAx hx1) mf_X11_slot im_X11_slot se_X11_slot ml_L_40 (Nat.le_of_ble_eq_true rfl) (Nat.le_of_ble_eq_true rfl) hmc hms rfl (Nat.le_of_ble_eq_true rfl) dL_law_285 rfl rfl ?_
  refine y_aload_n g 2 dL_law_288 rfl rfl ?_
  refine y_aload_n g 0 dL_law_289 rfl rfl ?_
  refine y_iload_n g 3 dL_law_290 rfl rfl ?_
  refine y_iconst g 1 dL_law_291 (by decide) ?_
  refine y_iadd g dL_law_292 ?_
  refine y_sld g yx (lw_idx (j := 1) hg hL (by decide)) dL_law_293 ?_
  refine y_aload_n g 0 dL_law_294 rfl rfl ?_
  refine y_iload_n g 3 dL_law_295 rfl rfl ?_
  refine y_iconst g 2 dL_law_296 (by decide) ?_
  refine y_iadd g dL_law_297 ?_
  refine y_sld g yx (lw_idx (j := 2) hg hL (by decide)) dL_law_298 ?_
  refine z_callM g yl [.int (xs (Int32.toNatClampNeg ((nI (6 * k)) + 1))), .int (xs (Int32.toNatClampNeg ((nI (6 * k)) + 2)))] [.int r] [.int r, .int r] (c_X12_slot hAm hm1) mf_X12_slot im_X12_slot se_X12_slot ml_L_43 (Nat.le_of_ble_eq_true rfl) (Nat.le_of_ble_eq_true rfl) hmc hms rfl (Nat.le_of_ble_eq_true rfl) dL_law_299 rfl rfl ?_
  refine y_icmp_eq_t g 956 dL_law_302 (by decide) rfl ?_
  refine y_iinc g 3 (nI (6 * (k + 1))) (lv' := [(3, .int (nI (6 * (k + 1)))), (0, .ref b), (1, .ref (Ax 0)), (2, .ref (Am 0))]) dL_law_956 rfl (by rw [show Int32.ofInt 6 = Int32.ofNat 6 from by decide]; simp only [nI]; rw [← Int32.ofNat_add, Nat.mul_succ]) (by decide) rfl ?_
  refine y_goto g 18 dL_law_959 (by decide) ?_
  exact y_sub [1, 2, 3, 0] rfl (ih _ _ hR2)
set_option maxHeartbeats 4000000 in
set_option maxRecDepth 100000 in
theorem lw_cut {E : EV} {l : Launch} {D : va_G} {cy : Nat → ClassId} {b L : Nat} {xs : Nat → Int32} {Ax Am : Nat → Nat} {Rel : Nat → St → St → Prop} {mc ms : Nat} (hL : L ≤ 3072) (hAx : AdOK 58 Ax) (hAm : AdOK 37 Am) (yl : YL E l D) (g : YG E cy cL_law RL 4 room_1) (yx : YX E b L xs) (ok : OKS Rel) (hmc : mc ≤ 600000) (hms : ms ≤ 7302250) {k : Nat} {σ μ : St} (hk : k < 512) (hR : Rel k σ μ) (hg : 6 * k + 6 ≤ L) (ih : ∀ σ μ, Rel (k + 1) σ μ → XA E (wX cy Ax σ ++ wM cy Am μ) mc ms 18 [(0, .ref b), (1, .ref (Ax 0)), (2, .ref (Am 0)), (3, .int (nI (6 * (k + 1))))] []) : XA E (wX cy Ax σ ++ wM cy Am μ) mc ms 307 [(0, .ref b), (1, .ref (Ax 0)), (2, .ref (Am 0)), (3, .int (nI (6 * k)))] [] := by
  refine y_aload_n g 1 dL_law_307 rfl rfl ?_
  refine y_aload_n g 0 dL_law_308 rfl rfl ?_
  refine y_iload_n g 3 dL_law_309 rfl rfl ?_
  refine y_iconst g 1 dL_law_310 (by decide) ?_
  refine y_iadd g dL_law_311 ?_
  refine y_sld g yx (lw_idx (j := 1) hg hL (by decide)) dL_law_312 ?_
  refine y_aload_n g 0 dL_law_313 rfl rfl ?_
  refine y_iload_n g 3 dL_law_314 rfl rfl ?_
  refine y_iconst g 2 dL_law_315 (by decide) ?_
  refine y_iadd g dL_law_316 ?_
  refine y_sld g yx (lw_idx (j := 2) hg hL (by decide)) dL_law_317 ?_
  by_cases hz : (xs (Int32.toNatClampNeg ((nI (6 * k)) + 2))) = 0
  · refine y_if_eq_t g 325 dL_law_318 (by decide) hz ?_
    refine y_iconst g 0 dL_law_325 (by decide) ?_
    obtain ⟨σ2, μ2, r, hx1, hm1, hR2⟩ := ok.2.2.2.2.2.2.2.1 k σ μ hk hR ((xs (Int32.toNatClampNeg ((nI (6 * k)) + 1)))) (0) (by decide)
    refine z_callX g yl [.int (xs (Int32.toNatClampNeg ((nI (6 * k)) + 1))), .int 0] [] [.int r] (c_X11_cut hAx hx1) mf_X11_cut im_X11_cut se_X11_cut ml_L_44 (Nat.le_of_ble_eq_true rfl) (Nat.le_of_ble_eq_true rfl) hmc hms rfl (Nat.le_of_ble_eq_true rfl) dL_law_326 rfl rfl ?_
    refine y_aload_n g 2 dL_law_329 rfl rfl ?_
    refine y_aload_n g 0 dL_law_330 rfl rfl ?_
    refine y_iload_n g 3 dL_law_331 rfl rfl ?_
    refine y_iconst g 1 dL_law_332 (by decide) ?_
    refine y_iadd g dL_law_333 ?_
    refine y_sld g yx (lw_idx (j := 1) hg hL (by decide)) dL_law_334 ?_
    refine y_aload_n g 0 dL_law_335 rfl rfl ?_
    refine y_iload_n g 3 dL_law_336 rfl rfl ?_
    refine y_iconst g 2 dL_law_337 (by decide) ?_
    refine y_iadd g dL_law_338 ?_
    refine y_sld g yx (lw_idx (j := 2) hg hL (by decide)) dL_law_339 ?_
    refine y_if_eq_t g 347 dL_law_340 (by decide) hz ?_
    refine y_iconst g 0 dL_law_347 (by decide) ?_
    refine z_callM g yl [.int (xs (Int32.toNatClampNeg ((nI (6 * k)) + 1))), .int 0] [.int r] [.int r, .int r] (c_X12_cut hAm hm1) mf_X12_cut im_X12_cut se_X12_cut ml_L_48 (Nat.le_of_ble_eq_true rfl) (Nat.le_of_ble_eq_true rfl) hmc hms rfl (Nat.le_of_ble_eq_true rfl) dL_law_348 rfl rfl ?_
    refine y_icmp_eq_t g 956 dL_law_351 (by decide) rfl ?_
    refine y_iinc g 3 (nI (6 * (k + 1))) (lv' := [(3, .int (nI (6 * (k + 1)))), (0, .ref b), (1, .ref (Ax 0)), (2, .ref (Am 0))]) dL_law_956 rfl (by rw [show Int32.ofInt 6 = Int32.ofNat 6 from by decide]; simp only [nI]; rw [← Int32.ofNat_add, Nat.mul_succ]) (by decide) rfl ?_
    refine y_goto g 18 dL_law_959 (by decide) ?_
    exact y_sub [1, 2, 3, 0] rfl (ih _ _ hR2)
  · refine y_if_eq_f g 325 dL_law_318 (by decide) hz ?_
    refine y_iconst g 1 dL_law_321 (by decide) ?_
    refine y_goto g 326 dL_law_322 (by decide) ?_
    obtain ⟨σ2, μ2, r, hx1, hm1, hR2⟩ := ok.2.2.2.2.2.2.2.1 k σ μ hk hR ((xs (Int32.toNatClampNeg ((nI (6 * k)) + 1)))) (1) (by decide)
    refine z_callX g yl [.int (xs (Int32.toNatClampNeg ((nI (6 * k)) + 1))), .int 1] [] [.int r] (c_X11_cut hAx hx1) mf_X11_cut im_X11_cut se_X11_cut ml_L_44 (Nat.le_of_ble_eq_true rfl) (Nat.le_of_ble_eq_true rfl) hmc hms rfl (Nat.le_of_ble_eq_true rfl) dL_law_326 rfl rfl ?_
    refine y_aload_n g 2 dL_law_329 rfl rfl ?_
    refine y_aload_n g 0 dL_law_330 rfl rfl ?_
    refine y_iload_n g 3 dL_law_331 rfl rfl ?_
    refine y_iconst g 1 dL_law_332 (by decide) ?_
    refine y_iadd g dL_law_333 ?_
    refine y_sld g yx (lw_idx (j := 1) hg hL (by decide)) dL_law_334 ?_
    refine y_aload_n g 0 dL_law_335 rfl rfl ?_
    refine y_iload_n g 3 dL_law_336 rfl rfl ?_
    refine y_iconst g 2 dL_law_337 (by decide) ?_
    refine y_iadd g dL_law_338 ?_
    refine y_sld g yx (lw_idx (j := 2) hg hL (by decide)) dL_law_339 ?_
    refine y_if_eq_f g 347 dL_law_340 (by decide) hz ?_
    refine y_iconst g 1 dL_law_343 (by decide) ?_
    refine y_goto g 348 dL_law_344 (by decide) ?_
    refine z_callM g yl [.int (xs (Int32.toNatClampNeg ((nI (6 * k)) + 1))), .int 1] [.int r] [.int r, .int r] (c_X12_cut hAm hm1) mf_X12_cut im_X12_cut se_X12_cut ml_L_48 (Nat.le_of_ble_eq_true rfl) (Nat.le_of_ble_eq_true rfl) hmc hms rfl (Nat.le_of_ble_eq_true rfl) dL_law_348 rfl rfl ?_
    refine y_icmp_eq_t g 956 dL_law_351 (by decide) rfl ?_
    refine y_iinc g 3 (nI (6 * (k + 1))) (lv' := [(3, .int (nI (6 * (k + 1)))), (0, .ref b), (1, .ref (Ax 0)), (2, .ref (Am 0))]) dL_law_956 rfl (by rw [show Int32.ofInt 6 = Int32.ofNat 6 from by decide]; simp only [nI]; rw [← Int32.ofNat_add, Nat.mul_succ]) (by decide) rfl ?_
    refine y_goto g 18 dL_law_959 (by decide) ?_
    exact y_sub [1, 2, 3, 0] rfl (ih _ _ hR2)
set_option maxHeartbeats 4000000 in
set_option maxRecDepth 100000 in
theorem lw_open {E : EV} {l : Launch} {D : va_G} {cy : Nat → ClassId} {b L : Nat} {xs : Nat → Int32} {Ax Am : Nat → Nat} {Rel : Nat → St → St → Prop} {mc ms : Nat} (hL : L ≤ 3072) (hAx : AdOK 58 Ax) (hAm : AdOK 37 Am) (yl : YL E l D) (g : YG E cy cL_law RL 4 room_1) (yx : YX E b L xs) (ok : OKS Rel) (hmc : mc ≤ 600000) (hms : ms ≤ 7302250) {k : Nat} {σ μ : St} (hk : k < 512) (hR : Rel k σ μ) (hg : 6 * k + 6 ≤ L) (ih : ∀ σ μ, Rel (k + 1) σ μ → XA E (wX cy Ax σ ++ wM cy Am μ) mc ms 18 [(0, .ref b), (1, .ref (Ax 0)), (2, .ref (Am 0)), (3, .int (nI (6 * (k + 1))))] []) : XA E (wX cy Ax σ ++ wM cy Am μ) mc ms 356 [(0, .ref b), (1, .ref (Ax 0)), (2, .ref (Am 0)), (3, .int (nI (6 * k)))] [] := by
  refine y_aload_n g 1 dL_law_356 rfl rfl ?_
  refine y_aload_n g 0 dL_law_357 rfl rfl ?_
  refine y_iload_n g 3 dL_law_358 rfl rfl ?_
  refine y_iconst g 1 dL_law_359 (by decide) ?_
  refine y_iadd g dL_law_360 ?_
  refine y_sld g yx (lw_idx (j := 1) hg hL (by decide)) dL_law_361 ?_
  refine y_aload_n g 0 dL_law_362 rfl rfl ?_
  refine y_iload_n g 3 dL_law_363 rfl rfl ?_
  refine y_iconst g 2 dL_law_364 (by decide) ?_
  refine y_iadd g dL_law_365 ?_
  refine y_sld g yx (lw_idx (j := 2) hg hL (by decide)) dL_law_366 ?_
  refine y_aload_n g 0 dL_law_367 rfl rfl ?_
  refine y_iload_n g 3 dL_law_368 rfl rfl ?_
  refine y_iconst g 3 dL_law_369 (by decide) ?_
  refine y_iadd g dL_law_370 ?_
  refine y_sld g yx (lw_idx (j := 3) hg hL (by decide)) dL_law_371 ?_
  refine y_aload_n g 0 dL_law_372 rfl rfl ?_
  refine y_iload_n g 3 dL_law_373 rfl rfl ?_
  refine y_iconst g 4 dL_law_374 (by decide) ?_
  refine y_iadd g dL_law_375 ?_
  refine y_sld g yx (lw_idx (j := 4) hg hL (by decide)) dL_law_376 ?_
  refine y_aload_n g 0 dL_law_377 rfl rfl ?_
  refine y_iload_n g 3 dL_law_378 rfl rfl ?_
  refine y_iconst g 5 dL_law_379 (by decide) ?_
  refine y_iadd g dL_law_380 ?_
  refine y_sld g yx (lw_idx (j := 5) hg hL (by decide)) dL_law_381 ?_
  obtain ⟨σ2, μ2, r, hx1, hm1, hR2⟩ := ok.2.2.2.2.2.2.2.2.1 k σ μ hk hR ((xs (Int32.toNatClampNeg ((nI (6 * k)) + 1)))) ((xs (Int32.toNatClampNeg ((nI (6 * k)) + 2)))) ((xs (Int32.toNatClampNeg ((nI (6 * k)) + 3)))) ((xs (Int32.toNatClampNeg ((nI (6 * k)) + 4)))) ((xs (Int32.toNatClampNeg ((nI (6 * k)) + 5))))
  refine z_callX g yl [.int (xs (Int32.toNatClampNeg ((nI (6 * k)) + 1))), .int (xs (Int32.toNatClampNeg ((nI (6 * k)) + 2))), .int (xs (Int32.toNatClampNeg ((nI (6 * k)) + 3))), .int (xs (Int32.toNatClampNeg ((nI (6 * k)) + 4))), .int (xs (Int32.toNatClampNeg ((nI (6 * k)) + 5)))] [] [.int r] (c_X11_open hAx hx1) mf_X11_open im_X11_open se_X11_open ml_L_49 (Nat.le_of_ble_eq_true rfl) (Nat.le_of_ble_eq_true rfl) hmc hms rfl (Nat.le_of_ble_eq_true rfl) dL_law_382 rfl rfl ?_
  refine y_aload_n g 2 dL_law_385 rfl rfl ?_
  refine y_aload_n g 0 dL_law_386 rfl rfl ?_
  refine y_iload_n g 3 dL_law_387 rfl rfl ?_
  refine y_iconst g 1 dL_law_388 (by decide) ?_
  refine y_iadd g dL_law_389 ?_
  refine y_sld g yx (lw_idx (j := 1) hg hL (by decide)) dL_law_390 ?_
  refine y_aload_n g 0 dL_law_391 rfl rfl ?_
  refine y_iload_n g 3 dL_law_392 rfl rfl ?_
  refine y_iconst g 2 dL_law_393 (by decide) ?_
  refine y_iadd g dL_law_394 ?_
  refine y_sld g yx (lw_idx (j := 2) hg hL (by decide)) dL_law_395 ?_
  refine y_aload_n g 0 dL_law_396 rfl rfl ?_
  refine y_iload_n g 3 dL_law_397 rfl rfl ?_
  refine y_iconst g 3 dL_law_398 (by decide) ?_
  refine y_iadd g dL_law_399 ?_
  refine y_sld g yx (lw_idx (j := 3) hg hL (by decide)) dL_law_400 ?_
  refine y_aload_n g 0 dL_law_401 rfl rfl ?_
  refine y_iload_n g 3 dL_law_402 rfl rfl ?_
  refine y_iconst g 4 dL_law_403 (by decide) ?_
  refine y_iadd g dL_law_404 ?_
  refine y_sld g yx (lw_idx (j := 4) hg hL (by decide)) dL_law_405 ?_
  refine y_aload_n g 0 dL_law_406 rfl rfl ?_
  refine y_iload_n g 3 dL_law_407 rfl rfl ?_
  refine y_iconst g 5 dL_law_408 (by decide) ?_
  refine y_iadd g dL_law_409 ?_
  refine y_sld g yx (lw_idx (j := 5) hg hL (by decide)) dL_law_410 ?_
  refine z_callM g yl [.int (xs (Int32.toNatClampNeg ((nI (6 * k)) + 1))), .int (xs (Int32.toNatClampNeg ((nI (6 * k)) + 2))), .int (xs (Int32.toNatClampNeg ((nI (6 * k)) + 3))), .int (xs (Int32.toNatClampNeg ((nI (6 * k)) + 4))), .int (xs (Int32.toNatClampNeg ((nI (6 * k)) + 5)))] [.int r] [.int r, .int r] (c_X12_open hAm hm1) mf_X12_open im_X12_open se_X12_open ml_L_53 (Nat.le_of_ble_eq_true rfl) (Nat.le_of_ble_eq_true rfl) hmc hms rfl (Nat.le_of_ble_eq_true rfl) dL_law_411 rfl rfl ?_
  refine y_icmp_eq_t g 956 dL_law_414 (by decide) rfl ?_
  refine y_iinc g 3 (nI (6 * (k + 1))) (lv' := [(3, .int (nI (6 * (k + 1)))), (0, .ref b), (1, .ref (Ax 0)), (2, .ref (Am 0))]) dL_law_956 rfl (by rw [show Int32.ofInt 6 = Int32.ofNat 6 from by decide]; simp only [nI]; rw [← Int32.ofNat_add, Nat.mul_succ]) (by decide) rfl ?_
  refine y_goto g 18 dL_law_959 (by decide) ?_
  exact y_sub [1, 2, 3, 0] rfl (ih _ _ hR2)
set_option maxHeartbeats 4000000 in
set_option maxRecDepth 100000 in
theorem lw_as {E : EV} {l : Launch} {D : va_G} {cy : Nat → ClassId} {b L : Nat} {xs : Nat → Int32} {Ax Am : Nat → Nat} {Rel : Nat → St → St → Prop} {mc ms : Nat} (hL : L ≤ 3072) (hAx : AdOK 58 Ax) (hAm : AdOK 37 Am) (yl : YL E l D) (g : YG E cy cL_law RL 4 room_1) (yx : YX E b L xs) (ok : OKS Rel) (hmc : mc ≤ 600000) (hms : ms ≤ 7302250) {k : Nat} {σ μ : St} (hk : k < 512) (hR : Rel k σ μ) (hg : 6 * k + 6 ≤ L) (ih : ∀ σ μ, Rel (k + 1) σ μ → XA E (wX cy Ax σ ++ wM cy Am μ) mc ms 18 [(0, .ref b), (1, .ref (Ax 0)), (2, .ref (Am 0)), (3, .int (nI (6 * (k + 1))))] []) : XA E (wX cy Ax σ ++ wM cy Am μ) mc ms 419 [(0, .ref b), (1, .ref (Ax 0)), (2, .ref (Am 0)), (3, .int (nI (6 * k)))] [] := by
  refine y_aload_n g 1 dL_law_419 rfl rfl ?_
  refine y_aload_n g 0 dL_law_420 rfl rfl ?_
  refine y_iload_n g 3 dL_law_421 rfl rfl ?_
  refine y_iconst g 1 dL_law_422 (by decide) ?_
  refine y_iadd g dL_law_423 ?_
  refine y_sld g yx (lw_idx (j := 1) hg hL (by decide)) dL_law_424 ?_
  refine y_aload_n g 0 dL_law_425 rfl rfl ?_
  refine y_iload_n g 3 dL_law_426 rfl rfl ?_
  refine y_iconst g 2 dL_law_427 (by decide) ?_
  refine y_iadd g dL_law_428 ?_
  refine y_sld g yx (lw_idx (j := 2) hg hL (by decide)) dL_law_429 ?_
  obtain ⟨r, hx1, hm1, hR2⟩ := ok.2.2.2.2.2.2.2.2.2.1 k σ μ hk hR ((xs (Int32.toNatClampNeg ((nI (6 * k)) + 1)))) ((xs (Int32.toNatClampNeg ((nI (6 * k)) + 2))))
  refine z_callX g yl [.int (xs (Int32.toNatClampNeg ((nI (6 * k)) + 1))), .int (xs (Int32.toNatClampNeg ((nI (6 * k)) + 2)))] [] [.int r] (c_X11_as hAx hx1) mf_X11_as im_X11_as se_X11_as ml_L_54 (Nat.le_of_ble_eq_true rfl) (Nat.le_of_ble_eq_true rfl) hmc hms rfl (Nat.le_of_ble_eq_true rfl) dL_law_430 rfl rfl ?_
  refine y_aload_n g 2 dL_law_433 rfl rfl ?_
  refine y_aload_n g 0 dL_law_434 rfl rfl ?_
  refine y_iload_n g 3 dL_law_435 rfl rfl ?_
  refine y_iconst g 1 dL_law_436 (by decide) ?_
  refine y_iadd g dL_law_437 ?_
  refine y_sld g yx (lw_idx (j := 1) hg hL (by decide)) dL_law_438 ?_
  refine y_aload_n g 0 dL_law_439 rfl rfl ?_
  refine y_iload_n g 3 dL_law_440 rfl rfl ?_
  refine y_iconst g 2 dL_law_441 (by decide) ?_
  refine y_iadd g dL_law_442 ?_
  refine y_sld g yx (lw_idx (j := 2) hg hL (by decide)) dL_law_443 ?_
  refine z_callM g yl [.int (xs (Int32.toNatClampNeg ((nI (6 * k)) + 1))), .int (xs (Int32.toNatClampNeg ((nI (6 * k)) + 2)))] [.int r] [.int r, .int r] (c_X12_as hAm hm1) mf_X12_as im_X12_as se_X12_as ml_L_57 (Nat.le_of_ble_eq_true rfl) (Nat.le_of_ble_eq_true rfl) hmc hms rfl (Nat.le_of_ble_eq_true rfl) dL_law_444 rfl rfl ?_
  refine y_icmp_eq_t g 956 dL_law_447 (by decide) rfl ?_
  refine y_iinc g 3 (nI (6 * (k + 1))) (lv' := [(3, .int (nI (6 * (k + 1)))), (0, .ref b), (1, .ref (Ax 0)), (2, .ref (Am 0))]) dL_law_956 rfl (by rw [show Int32.ofInt 6 = Int32.ofNat 6 from by decide]; simp only [nI]; rw [← Int32.ofNat_add, Nat.mul_succ]) (by decide) rfl ?_
  refine y_goto g 18 dL_law_959 (by decide) ?_
  exact y_sub [1, 2, 3, 0] rfl (ih _ _ hR2)
set_option maxHeartbeats 4000000 in
set_option maxRecDepth 100000 in
theorem lw_circuit {E : EV} {l : Launch} {D : va_G} {cy : Nat → ClassId} {b L : Nat} {xs : Nat → Int32} {Ax Am : Nat → Nat} {Rel : Nat → St → St → Prop} {mc ms : Nat} (hL : L ≤ 3072) (hAx : AdOK 58 Ax) (hAm : AdOK 37 Am) (yl : YL E l D) (g : YG E cy cL_law RL 4 room_1) (yx : YX E b L xs) (ok : OKS Rel) (hmc : mc ≤ 600000) (hms : ms ≤ 7302250) {k : Nat} {σ μ : St} (hk : k < 512) (hR : Rel k σ μ) (hg : 6 * k + 6 ≤ L) (ih : ∀ σ μ, Rel (k + 1) σ μ → XA E (wX cy Ax σ ++ wM cy Am μ) mc ms 18 [(0, .ref b), (1, .ref (Ax 0)), (2, .ref (Am 0)), (3, .int (nI (6 * (k + 1))))] []) : XA E (wX cy Ax σ ++ wM cy Am μ) mc ms 452 [(0, .ref b), (1, .ref (Ax 0)), (2, .ref (Am 0)), (3, .int (nI (6 * k)))] [] := by
  refine y_aload_n g 1 dL_law_452 rfl rfl ?_
  refine y_aload_n g 0 dL_law_453 rfl rfl ?_
  refine y_iload_n g 3 dL_law_454 rfl rfl ?_
  refine y_iconst g 1 dL_law_455 (by decide) ?_
  refine y_iadd g dL_law_456 ?_
  refine y_sld g yx (lw_idx (j := 1) hg hL (by decide)) dL_law_457 ?_
  refine y_aload_n g 0 dL_law_458 rfl rfl ?_
  refine y_iload_n g 3 dL_law_459 rfl rfl ?_
  refine y_iconst g 2 dL_law_460 (by decide) ?_
  refine y_iadd g dL_law_461 ?_
  refine y_sld g yx (lw_idx (j := 2) hg hL (by decide)) dL_law_462 ?_
  obtain ⟨r, hx1, hm1, hR2⟩ := ok.2.2.2.2.2.2.2.2.2.2.1 k σ μ hk hR ((xs (Int32.toNatClampNeg ((nI (6 * k)) + 1)))) ((xs (Int32.toNatClampNeg ((nI (6 * k)) + 2))))
  refine z_callX g yl [.int (xs (Int32.toNatClampNeg ((nI (6 * k)) + 1))), .int (xs (Int32.toNatClampNeg ((nI (6 * k)) + 2)))] [] [.int r] (c_X11_circuit hAx hx1) mf_X11_circuit im_X11_circuit se_X11_circuit ml_L_58 (Nat.le_of_ble_eq_true rfl) (Nat.le_of_ble_eq_true rfl) hmc hms rfl (Nat.le_of_ble_eq_true rfl) dL_law_463 rfl rfl ?_
  refine y_aload_n g 2 dL_law_466 rfl rfl ?_
  refine y_aload_n g 0 dL_law_467 rfl rfl ?_
  refine y_iload_n g 3 dL_law_468 rfl rfl ?_
  refine y_iconst g 1 dL_law_469 (by decide) ?_
  refine y_iadd g dL_law_470 ?_
  refine y_sld g yx (lw_idx (j := 1) hg hL (by decide)) dL_law_471 ?_
  refine y_aload_n g 0 dL_law_472 rfl rfl ?_
  refine y_iload_n g 3 dL_law_473 rfl rfl ?_
  refine y_iconst g 2 dL_law_474 (by decide) ?_
  refine y_iadd g dL_law_475 ?_
  refine y_sld g yx (lw_idx (j := 2) hg hL (by decide)) dL_law_476 ?_
  refine z_callM g yl [.int (xs (Int32.toNatClampNeg ((nI (6 * k)) + 1))), .int (xs (Int32.toNatClampNeg ((nI (6 * k)) + 2)))] [.int r] [.int r, .int r] (c_X12_circuit hAm hm1) mf_X12_circuit im_X12_circuit se_X12_circuit ml_L_61 (Nat.le_of_ble_eq_true rfl) (Nat.le_of_ble_eq_true rfl) hmc hms rfl (Nat.le_of_ble_eq_true rfl) dL_law_477 rfl rfl ?_
  refine y_icmp_eq_t g 956 dL_law_480 (by decide) rfl ?_
  refine y_iinc g 3 (nI (6 * (k + 1))) (lv' := [(3, .int (nI (6 * (k + 1)))), (0, .ref b), (1, .ref (Ax 0)), (2, .ref (Am 0))]) dL_law_956 rfl (by rw [show Int32.ofInt 6 = Int32.ofNat 6 from by decide]; simp only [nI]; rw [← Int32.ofNat_add, Nat.mul_succ]) (by decide) rfl ?_
  refine y_goto g 18 dL_law_959 (by decide) ?_
  exact y_sub [1, 2, 3, 0] rfl (ih _ _ hR2)
set_option maxHeartbeats 4000000 in
set_option maxRecDepth 100000 in
theorem lw_route {E : EV} {l : Launch} {D : va_G} {cy : Nat → ClassId} {b L : Nat} {xs : Nat → Int32} {Ax Am : Nat → Nat} {Rel : Nat → St → St → Prop} {mc ms : Nat} (hL : L ≤ 3072) (hAx : AdOK 58 Ax) (hAm : AdOK 37 Am) (yl : YL E l D) (g : YG E cy cL_law RL 4 room_1) (yx : YX E b L xs) (ok : OKS Rel) (hmc : mc ≤ 600000) (hms : ms ≤ 7302250) {k : Nat} {σ μ : St} (hk : k < 512) (hR : Rel k σ μ) (hg : 6 * k + 6 ≤ L) (ih : ∀ σ μ, Rel (k + 1) σ μ → XA E (wX cy Ax σ ++ wM cy Am μ) mc ms 18 [(0, .ref b), (1, .ref (Ax 0)), (2, .ref (Am 0)), (3, .int (nI (6 * (k + 1))))] []) : XA E (wX cy Ax σ ++ wM cy Am μ) mc ms 485 [(0, .ref b), (1, .ref (Ax 0)), (2, .ref (Am 0)), (3, .int (nI (6 * k)))] [] := by
  refine y_aload_n g 1 dL_law_485 rfl rfl ?_
  refine y_aload_n g 0 dL_law_486 rfl rfl ?_
  refine y_iload_n g 3 dL_law_487 rfl rfl ?_
  refine y_iconst g 1 dL_law_488 (by decide) ?_
  refine y_iadd g dL_law_489 ?_
  refine y_sld g yx (lw_idx (j := 1) hg hL (by decide)) dL_law_490 ?_
  refine y_aload_n g 0 dL_law_491 rfl rfl ?_
  refine y_iload_n g 3 dL_law_492 rfl rfl ?_
  refine y_iconst g 2 dL_law_493 (by decide) ?_
  refine y_iadd g dL_law_494 ?_
  refine y_sld g yx (lw_idx (j := 2) hg hL (by decide)) dL_law_495 ?_
  obtain ⟨r, hx1, hm1, hR2⟩ := ok.2.2.2.2.2.2.2.2.2.2.2.1 k σ μ hk hR ((xs (Int32.toNatClampNeg ((nI (6 * k)) + 1)))) ((xs (Int32.toNatClampNeg ((nI (6 * k)) + 2))))
  refine z_callX g yl [.int (xs (Int32.toNatClampNeg ((nI (6 * k)) + 1))), .int (xs (Int32.toNatClampNeg ((nI (6 * k)) + 2)))] [] [.int r] (c_X11_route hAx hx1) mf_X11_route im_X11_route se_X11_route ml_L_62 (Nat.le_of_ble_eq_true rfl) (Nat.le_of_ble_eq_true rfl) hmc hms rfl (Nat.le_of_ble_eq_true rfl) dL_law_496 rfl rfl ?_
  refine y_aload_n g 2 dL_law_499 rfl rfl ?_
  refine y_aload_n g 0 dL_law_500 rfl rfl ?_
  refine y_iload_n g 3 dL_law_501 rfl rfl ?_
  refine y_iconst g 1 dL_law_502 (by decide) ?_
  refine y_iadd g dL_law_503 ?_
  refine y_sld g yx (lw_idx (j := 1) hg hL (by decide)) dL_law_504 ?_
  refine y_aload_n g 0 dL_law_505 rfl rfl ?_
  refine y_iload_n g 3 dL_law_506 rfl rfl ?_
  refine y_iconst g 2 dL_law_507 (by decide) ?_
  refine y_iadd g dL_law_508 ?_
  refine y_sld g yx (lw_idx (j := 2) hg hL (by decide)) dL_law_509 ?_
  refine z_callM g yl [.int (xs (Int32.toNatClampNeg ((nI (6 * k)) + 1))), .int (xs (Int32.toNatClampNeg ((nI (6 * k)) + 2)))] [.int r] [.int r, .int r] (c_X12_route hAm hm1) mf_X12_route im_X12_route se_X12_route ml_L_65 (Nat.le_of_ble_eq_true rfl) (Nat.le_of_ble_eq_true rfl) hmc hms rfl (Nat.le_of_ble_eq_true rfl) dL_law_510 rfl rfl ?_
  refine y_icmp_eq_t g 956 dL_law_513 (by decide) rfl ?_
  refine y_iinc g 3 (nI (6 * (k + 1))) (lv' := [(3, .int (nI (6 * (k + 1)))), (0, .ref b), (1, .ref (Ax 0)), (2, .ref (Am 0))]) dL_law_956 rfl (by rw [show Int32.ofInt 6 = Int32.ofNat 6 from by decide]; simp only [nI]; rw [← Int32.ofNat_add, Nat.mul_succ]) (by decide) rfl ?_
  refine y_goto g 18 dL_law_959 (by decide) ?_
  exact y_sub [1, 2, 3, 0] rfl (ih _ _ hR2)
set_option maxHeartbeats 4000000 in
set_option maxRecDepth 100000 in
theorem lw_start {E : EV} {l : Launch} {D : va_G} {cy : Nat → ClassId} {b L : Nat} {xs : Nat → Int32} {Ax Am : Nat → Nat} {Rel : Nat → St → St → Prop} {mc ms : Nat} (hL : L ≤ 3072) (hAx : AdOK 58 Ax) (hAm : AdOK 37 Am) (yl : YL E l D) (g : YG E cy cL_law RL 4 room_1) (yx : YX E b L xs) (ok : OKS Rel) (hmc : mc ≤ 600000) (hms : ms ≤ 7302250) {k : Nat} {σ μ : St} (hk : k < 512) (hR : Rel k σ μ) (hg : 6 * k + 6 ≤ L) (ih : ∀ σ μ, Rel (k + 1) σ μ → XA E (wX cy Ax σ ++ wM cy Am μ) mc ms 18 [(0, .ref b), (1, .ref (Ax 0)), (2, .ref (Am 0)), (3, .int (nI (6 * (k + 1))))] []) : XA E (wX cy Ax σ ++ wM cy Am μ) mc ms 518 [(0, .ref b), (1, .ref (Ax 0)), (2, .ref (Am 0)), (3, .int (nI (6 * k)))] [] := by
  refine y_aload_n g 1 dL_law_518 rfl rfl ?_
  refine y_aload_n g 0 dL_law_519 rfl rfl ?_
  refine y_iload_n g 3 dL_law_520 rfl rfl ?_
  refine y_iconst g 1 dL_law_521 (by decide) ?_
  refine y_iadd g dL_law_522 ?_
  refine y_sld g yx (lw_idx (j := 1) hg hL (by decide)) dL_law_523 ?_
  refine y_aload_n g 0 dL_law_524 rfl rfl ?_
  refine y_iload_n g 3 dL_law_525 rfl rfl ?_
  refine y_iconst g 2 dL_law_526 (by decide) ?_
  refine y_iadd g dL_law_527 ?_
  refine y_sld g yx (lw_idx (j := 2) hg hL (by decide)) dL_law_528 ?_
  obtain ⟨r, hx1, hm1, hR2⟩ := ok.2.2.2.2.2.2.2.2.2.2.2.2.1 k σ μ hk hR ((xs (Int32.toNatClampNeg ((nI (6 * k)) + 1)))) ((xs (Int32.toNatClampNeg ((nI (6 * k)) + 2))))
  refine z_callX g yl [.int (xs (Int32.toNatClampNeg ((nI (6 * k)) + 1))), .int (xs (Int32.toNatClampNeg ((nI (6 * k)) + 2)))] [] [.int r] (c_X11_start hAx hx1) mf_X11_start im_X11_start se_X11_start ml_L_66 (Nat.le_of_ble_eq_true rfl) (Nat.le_of_ble_eq_true rfl) hmc hms rfl (Nat.le_of_ble_eq_true rfl) dL_law_529 rfl rfl ?_
  refine y_aload_n g 2 dL_law_532 rfl rfl ?_
  refine y_aload_n g 0 dL_law_533 rfl rfl ?_
  refine y_iload_n g 3 dL_law_534 rfl rfl ?_
  refine y_iconst g 1 dL_law_535 (by decide) ?_
  refine y_iadd g dL_law_536 ?_
  refine y_sld g yx (lw_idx (j := 1) hg hL (by decide)) dL_law_537 ?_
  refine y_aload_n g 0 dL_law_538 rfl rfl ?_
  refine y_iload_n g 3 dL_law_539 rfl rfl ?_
  refine y_iconst g 2 dL_law_540 (by decide) ?_
  refine y_iadd g dL_law_541 ?_
  refine y_sld g yx (lw_idx (j := 2) hg hL (by decide)) dL_law_542 ?_
  refine z_callM g yl [.int (xs (Int32.toNatClampNeg ((nI (6 * k)) + 1))), .int (xs (Int32.toNatClampNeg ((nI (6 * k)) + 2)))] [.int r] [.int r, .int r] (c_X12_start hAm hm1) mf_X12_start im_X12_start se_X12_start ml_L_69 (Nat.le_of_ble_eq_true rfl) (Nat.le_of_ble_eq_true rfl) hmc hms rfl (Nat.le_of_ble_eq_true rfl) dL_law_543 rfl rfl ?_
  refine y_icmp_eq_t g 956 dL_law_546 (by decide) rfl ?_
  refine y_iinc g 3 (nI (6 * (k + 1))) (lv' := [(3, .int (nI (6 * (k + 1)))), (0, .ref b), (1, .ref (Ax 0)), (2, .ref (Am 0))]) dL_law_956 rfl (by rw [show Int32.ofInt 6 = Int32.ofNat 6 from by decide]; simp only [nI]; rw [← Int32.ofNat_add, Nat.mul_succ]) (by decide) rfl ?_
  refine y_goto g 18 dL_law_959 (by decide) ?_
  exact y_sub [1, 2, 3, 0] rfl (ih _ _ hR2)
set_option maxHeartbeats 4000000 in
set_option maxRecDepth 100000 in
theorem lw_pair {E : EV} {l : Launch} {D : va_G} {cy : Nat → ClassId} {b L : Nat} {xs : Nat → Int32} {Ax Am : Nat → Nat} {Rel : Nat → St → St → Prop} {mc ms : Nat} (hL : L ≤ 3072) (hAx : AdOK 58 Ax) (hAm : AdOK 37 Am) (yl : YL E l D) (g : YG E cy cL_law RL 4 room_1) (yx : YX E b L xs) (ok : OKS Rel) (hmc : mc ≤ 600000) (hms : ms ≤ 7302250) {k : Nat} {σ μ : St} (hk : k < 512) (hR : Rel k σ μ) (hg : 6 * k + 6 ≤ L) (ih : ∀ σ μ, Rel (k + 1) σ μ → XA E (wX cy Ax σ ++ wM cy Am μ) mc ms 18 [(0, .ref b), (1, .ref (Ax 0)), (2, .ref (Am 0)), (3, .int (nI (6 * (k + 1))))] []) : XA E (wX cy Ax σ ++ wM cy Am μ) mc ms 551 [(0, .ref b), (1, .ref (Ax 0)), (2, .ref (Am 0)), (3, .int (nI (6 * k)))] [] := by
  refine y_aload_n g 1 dL_law_551 rfl rfl ?_
  refine y_aload_n g 0 dL_law_552 rfl rfl ?_
  refine y_iload_n g 3 dL_law_553 rfl rfl ?_
  refine y_iconst g 1 dL_law_554 (by decide) ?_
  refine y_iadd g dL_law_555 ?_
  refine y_sld g yx (lw_idx (j := 1) hg hL (by decide)) dL_law_556 ?_
  refine y_aload_n g 0 dL_law_557 rfl rfl ?_
  refine y_iload_n g 3 dL_law_558 rfl rfl ?_
  refine y_iconst g 2 dL_law_559 (by decide) ?_
  refine y_iadd g dL_law_560 ?_
  refine y_sld g yx (lw_idx (j := 2) hg hL (by decide)) dL_law_561 ?_
  obtain ⟨σ2, μ2, r, hx1, hm1, hR2⟩ := ok.2.2.2.2.2.2.2.2.2.2.2.2.2.1 k σ μ hk hR ((xs (Int32.toNatClampNeg ((nI (6 * k)) + 1)))) ((xs (Int32.toNatClampNeg ((nI (6 * k)) + 2))))
  refine z_callX g yl [.int (xs (Int32.toNatClampNeg ((nI (6 * k)) + 1))), .int (xs (Int32.toNatClampNeg ((nI (6 * k)) + 2)))] [] [.int r] (c_X11_pair hAx hx1) mf_X11_pair im_X11_pair se_X11_pair ml_L_70 (Nat.le_of_ble_eq_true rfl) (Nat.le_of_ble_eq_true rfl) hmc hms rfl (Nat.le_of_ble_eq_true rfl) dL_law_562 rfl rfl ?_
  refine y_aload_n g 2 dL_law_565 rfl rfl ?_
  refine y_aload_n g 0 dL_law_566 rfl rfl ?_
  refine y_iload_n g 3 dL_law_567 rfl rfl ?_
  refine y_iconst g 1 dL_law_568 (by decide) ?_
  refine y_iadd g dL_law_569 ?_
  refine y_sld g yx (lw_idx (j := 1) hg hL (by decide)) dL_law_570 ?_
  refine y_aload_n g 0 dL_law_571 rfl rfl ?_
  refine y_iload_n g 3 dL_law_572 rfl rfl ?_
  refine y_iconst g 2 dL_law_573 (by decide) ?_
  refine y_iadd g dL_law_574 ?_
  refine y_sld g yx (lw_idx (j := 2) hg hL (by decide)) dL_law_575 ?_
  refine z_callM g yl [.int (xs (Int32.toNatClampNeg ((nI (6 * k)) + 1))), .int (xs (Int32.toNatClampNeg ((nI (6 * k)) + 2)))] [.int r] [.int r, .int r] (c_X12_pair hAm hm1) mf_X12_pair im_X12_pair se_X12_pair ml_L_73 (Nat.le_of_ble_eq_true rfl) (Nat.le_of_ble_eq_true rfl) hmc hms rfl (Nat.le_of_ble_eq_true rfl) dL_law_576 rfl rfl ?_
  refine y_icmp_eq_t g 956 dL_law_579 (by decide) rfl ?_
  refine y_iinc g 3 (nI (6 * (k + 1))) (lv' := [(3, .int (nI (6 * (k + 1)))), (0, .ref b), (1, .ref (Ax 0)), (2, .ref (Am 0))]) dL_law_956 rfl (by rw [show Int32.ofInt 6 = Int32.ofNat 6 from by decide]; simp only [nI]; rw [← Int32.ofNat_add, Nat.mul_succ]) (by decide) rfl ?_
  refine y_goto g 18 dL_law_959 (by decide) ?_
  exact y_sub [1, 2, 3, 0] rfl (ih _ _ hR2)
set_option maxHeartbeats 4000000 in
set_option maxRecDepth 100000 in
theorem lw_move {E : EV} {l : Launch} {D : va_G} {cy : Nat → ClassId} {b L : Nat} {xs : Nat → Int32} {Ax Am : Nat → Nat} {Rel : Nat → St → St → Prop} {mc ms : Nat} (hL : L ≤ 3072) (hAx : AdOK 58 Ax) (hAm : AdOK 37 Am) (yl : YL E l D) (g : YG E cy cL_law RL 4 room_1) (yx : YX E b L xs) (ok : OKS Rel) (hmc : mc ≤ 600000) (hms : ms ≤ 7302250) {k : Nat} {σ μ : St} (hk : k < 512) (hR : Rel k σ μ) (hg : 6 * k + 6 ≤ L) (ih : ∀ σ μ, Rel (k + 1) σ μ → XA E (wX cy Ax σ ++ wM cy Am μ) mc ms 18 [(0, .ref b), (1, .ref (Ax 0)), (2, .ref (Am 0)), (3, .int (nI (6 * (k + 1))))] []) : XA E (wX cy Ax σ ++ wM cy Am μ) mc ms 584 [(0, .ref b), (1, .ref (Ax 0)), (2, .ref (Am 0)), (3, .int (nI (6 * k)))] [] := by
  refine y_aload_n g 1 dL_law_584 rfl rfl ?_
  refine y_aload_n g 0 dL_law_585 rfl rfl ?_
  refine y_iload_n g 3 dL_law_586 rfl rfl ?_
  refine y_iconst g 1 dL_law_587 (by decide) ?_
  refine y_iadd g dL_law_588 ?_
  refine y_sld g yx (lw_idx (j := 1) hg hL (by decide)) dL_law_589 ?_
  obtain ⟨σ2, μ2, r, hx1, hm1, hR2⟩ := ok.2.2.2.2.2.2.2.2.2.2.2.2.2.2.1 k σ μ hk hR ((xs (Int32.toNatClampNeg ((nI (6 * k)) + 1))))
  refine z_callX g yl [.int (xs (Int32.toNatClampNeg ((nI (6 * k)) + 1)))] [] [.int r] (c_X11_move hAx hx1) mf_X11_move im_X11_move se_X11_move ml_L_74 (Nat.le_of_ble_eq_true rfl) (Nat.le_of_ble_eq_true rfl) hmc hms rfl (Nat.le_of_ble_eq_true rfl) dL_law_590 rfl rfl ?_
  refine y_aload_n g 2 dL_law_593 rfl rfl ?_
  refine y_aload_n g 0 dL_law_594 rfl rfl ?_
  refine y_iload_n g 3 dL_law_595 rfl rfl ?_
  refine y_iconst g 1 dL_law_596 (by decide) ?_
  refine y_iadd g dL_law_597 ?_
  refine y_sld g yx (lw_idx (j := 1) hg hL (by decide)) dL_law_598 ?_
  refine z_callM g yl [.int (xs (Int32.toNatClampNeg ((nI (6 * k)) + 1)))] [.int r] [.int r, .int r] (c_X12_move hAm hm1) mf_X12_move im_X12_move se_X12_move ml_L_77 (Nat.le_of_ble_eq_true rfl) (Nat.le_of_ble_eq_true rfl) hmc hms rfl (Nat.le_of_ble_eq_true rfl) dL_law_599 rfl rfl ?_
  refine y_icmp_eq_t g 956 dL_law_602 (by decide) rfl ?_
  refine y_iinc g 3 (nI (6 * (k + 1))) (lv' := [(3, .int (nI (6 * (k + 1)))), (0, .ref b), (1, .ref (Ax 0)), (2, .ref (Am 0))]) dL_law_956 rfl (by rw [show Int32.ofInt 6 = Int32.ofNat 6 from by decide]; simp only [nI]; rw [← Int32.ofNat_add, Nat.mul_succ]) (by decide) rfl ?_
  refine y_goto g 18 dL_law_959 (by decide) ?_
  exact y_sub [1, 2, 3, 0] rfl (ih _ _ hR2)
set_option maxHeartbeats 4000000 in
set_option maxRecDepth 100000 in
theorem lw_close {E : EV} {l : Launch} {D : va_G} {cy : Nat → ClassId} {b L : Nat} {xs : Nat → Int32} {Ax Am : Nat → Nat} {Rel : Nat → St → St → Prop} {mc ms : Nat} (hL : L ≤ 3072) (hAx : AdOK 58 Ax) (hAm : AdOK 37 Am) (yl : YL E l D) (g : YG E cy cL_law RL 4 room_1) (yx : YX E b L xs) (ok : OKS Rel) (hmc : mc ≤ 600000) (hms : ms ≤ 7302250) {k : Nat} {σ μ : St} (hk : k < 512) (hR : Rel k σ μ) (hg : 6 * k + 6 ≤ L) (ih : ∀ σ μ, Rel (k + 1) σ μ → XA E (wX cy Ax σ ++ wM cy Am μ) mc ms 18 [(0, .ref b), (1, .ref (Ax 0)), (2, .ref (Am 0)), (3, .int (nI (6 * (k + 1))))] []) : XA E (wX cy Ax σ ++ wM cy Am μ) mc ms 607 [(0, .ref b), (1, .ref (Ax 0)), (2, .ref (Am 0)), (3, .int (nI (6 * k)))] [] := by
  refine y_aload_n g 1 dL_law_607 rfl rfl ?_
  refine y_aload_n g 0 dL_law_608 rfl rfl ?_
  refine y_iload_n g 3 dL_law_609 rfl rfl ?_
  refine y_iconst g 1 dL_law_610 (by decide) ?_
  refine y_iadd g dL_law_611 ?_
  refine y_sld g yx (lw_idx (j := 1) hg hL (by decide)) dL_law_612 ?_
  obtain ⟨σ2, μ2, r, hx1, hm1, hR2⟩ := ok.2.2.2.2.2.2.2.2.2.2.2.2.2.2.2.1 k σ μ hk hR ((xs (Int32.toNatClampNeg ((nI (6 * k)) + 1))))
  refine z_callX g yl [.int (xs (Int32.toNatClampNeg ((nI (6 * k)) + 1)))] [] [.int r] (c_X11_close hAx hx1) mf_X11_close im_X11_close se_X11_close ml_L_78 (Nat.le_of_ble_eq_true rfl) (Nat.le_of_ble_eq_true rfl) hmc hms rfl (Nat.le_of_ble_eq_true rfl) dL_law_613 rfl rfl ?_
  refine y_aload_n g 2 dL_law_616 rfl rfl ?_
  refine y_aload_n g 0 dL_law_617 rfl rfl ?_
  refine y_iload_n g 3 dL_law_618 rfl rfl ?_
  refine y_iconst g 1 dL_law_619 (by decide) ?_
  refine y_iadd g dL_law_620 ?_
  refine y_sld g yx (lw_idx (j := 1) hg hL (by decide)) dL_law_621 ?_
  refine z_callM g yl [.int (xs (Int32.toNatClampNeg ((nI (6 * k)) + 1)))] [.int r] [.int r, .int r] (c_X12_close hAm hm1) mf_X12_close im_X12_close se_X12_close ml_L_81 (Nat.le_of_ble_eq_true rfl) (Nat.le_of_ble_eq_true rfl) hmc hms rfl (Nat.le_of_ble_eq_true rfl) dL_law_622 rfl rfl ?_
  refine y_icmp_eq_t g 956 dL_law_625 (by decide) rfl ?_
  refine y_iinc g 3 (nI (6 * (k + 1))) (lv' := [(3, .int (nI (6 * (k + 1)))), (0, .ref b), (1, .ref (Ax 0)), (2, .ref (Am 0))]) dL_law_956 rfl (by rw [show Int32.ofInt 6 = Int32.ofNat 6 from by decide]; simp only [nI]; rw [← Int32.ofNat_add, Nat.mul_succ]) (by decide) rfl ?_
  refine y_goto g 18 dL_law_959 (by decide) ?_
  exact y_sub [1, 2, 3, 0] rfl (ih _ _ hR2)
set_option maxHeartbeats 4000000 in
set_option maxRecDepth 100000 in
theorem lw_feed {E : EV} {l : Launch} {D : va_G} {cy : Nat → ClassId} {b L : Nat} {xs : Nat → Int32} {Ax Am : Nat → Nat} {Rel : Nat → St → St → Prop} {mc ms : Nat} (hL : L ≤ 3072) (hAx : AdOK 58 Ax) (hAm : AdOK 37 Am) (yl : YL E l D) (g : YG E cy cL_law RL 4 room_1) (yx : YX E b L xs) (ok : OKS Rel) (hmc : mc ≤ 600000) (hms : ms ≤ 7302250) {k : Nat} {σ μ : St} (hk : k < 512) (hR : Rel k σ μ) (hg : 6 * k + 6 ≤ L) (ih : ∀ σ μ, Rel (k + 1) σ μ → XA E (wX cy Ax σ ++ wM cy Am μ) mc ms 18 [(0, .ref b), (1, .ref (Ax 0)), (2, .ref (Am 0)), (3, .int (nI (6 * (k + 1))))] []) : XA E (wX cy Ax σ ++ wM cy Am μ) mc ms 630 [(0, .ref b), (1, .ref (Ax 0)), (2, .ref (Am 0)), (3, .int (nI (6 * k)))] [] := by
  refine y_aload_n g 1 dL_law_630 rfl rfl ?_
  refine y_aload_n g 0 dL_law_631 rfl rfl ?_
  refine y_iload_n g 3 dL_law_632 rfl rfl ?_
  refine y_iconst g 1 dL_law_633 (by decide) ?_
  refine y_iadd g dL_law_634 ?_
  refine y_sld g yx (lw_idx (j := 1) hg hL (by decide)) dL_law_635 ?_
  refine y_aload_n g 0 dL_law_636 rfl rfl ?_
  refine y_iload_n g 3 dL_law_637 rfl rfl ?_
  refine y_iconst g 2 dL_law_638 (by decide) ?_
  refine y_iadd g dL_law_639 ?_
  refine y_sld g yx (lw_idx (j := 2) hg hL (by decide)) dL_law_640 ?_
  obtain ⟨σ2, μ2, r, hx1, hm1, hR2⟩ := ok.2.2.2.2.2.2.2.2.2.2.2.2.2.2.2.2.1 k σ μ hk hR ((xs (Int32.toNatClampNeg ((nI (6 * k)) + 1)))) ((xs (Int32.toNatClampNeg ((nI (6 * k)) + 2))))
  refine z_callX g yl [.int (xs (Int32.toNatClampNeg ((nI (6 * k)) + 1))), .int (xs (Int32.toNatClampNeg ((nI (6 * k)) + 2)))] [] [.int r] (c_X11_feed hAx hx1) mf_X11_feed im_X11_feed se_X11_feed ml_L_82 (Nat.le_of_ble_eq_true rfl) (Nat.le_of_ble_eq_true rfl) hmc hms rfl (Nat.le_of_ble_eq_true rfl) dL_law_641 rfl rfl ?_
  refine y_aload_n g 2 dL_law_644 rfl rfl ?_
  refine y_aload_n g 0 dL_law_645 rfl rfl ?_
  refine y_iload_n g 3 dL_law_646 rfl rfl ?_
  refine y_iconst g 1 dL_law_647 (by decide) ?_
  refine y_iadd g dL_law_648 ?_
  refine y_sld g yx (lw_idx (j := 1) hg hL (by decide)) dL_law_649 ?_
  refine y_aload_n g 0 dL_law_650 rfl rfl ?_
  refine y_iload_n g 3 dL_law_651 rfl rfl ?_
  refine y_iconst g 2 dL_law_652 (by decide) ?_
  refine y_iadd g dL_law_653 ?_
  refine y_sld g yx (lw_idx (j := 2) hg hL (by decide)) dL_law_654 ?_
  refine z_callM g yl [.int (xs (Int32.toNatClampNeg ((nI (6 * k)) + 1))), .int (xs (Int32.toNatClampNeg ((nI (6 * k)) + 2)))] [.int r] [.int r, .int r] (c_X12_feed hAm hm1) mf_X12_feed im_X12_feed se_X12_feed ml_L_85 (Nat.le_of_ble_eq_true rfl) (Nat.le_of_ble_eq_true rfl) hmc hms rfl (Nat.le_of_ble_eq_true rfl) dL_law_655 rfl rfl ?_
  refine y_icmp_eq_t g 956 dL_law_658 (by decide) rfl ?_
  refine y_iinc g 3 (nI (6 * (k + 1))) (lv' := [(3, .int (nI (6 * (k + 1)))), (0, .ref b), (1, .ref (Ax 0)), (2, .ref (Am 0))]) dL_law_956 rfl (by rw [show Int32.ofInt 6 = Int32.ofNat 6 from by decide]; simp only [nI]; rw [← Int32.ofNat_add, Nat.mul_succ]) (by decide) rfl ?_
  refine y_goto g 18 dL_law_959 (by decide) ?_
  exact y_sub [1, 2, 3, 0] rfl (ih _ _ hR2)
set_option maxHeartbeats 4000000 in
set_option maxRecDepth 100000 in
theorem lw_take {E : EV} {l : Launch} {D : va_G} {cy : Nat → ClassId} {b L : Nat} {xs : Nat → Int32} {Ax Am : Nat → Nat} {Rel : Nat → St → St → Prop} {mc ms : Nat} (hL : L ≤ 3072) (hAx : AdOK 58 Ax) (hAm : AdOK 37 Am) (yl : YL E l D) (g : YG E cy cL_law RL 4 room_1) (yx : YX E b L xs) (ok : OKS Rel) (hmc : mc ≤ 600000) (hms : ms ≤ 7302250) {k : Nat} {σ μ : St} (hk : k < 512) (hR : Rel k σ μ) (hg : 6 * k + 6 ≤ L) (ih : ∀ σ μ, Rel (k + 1) σ μ → XA E (wX cy Ax σ ++ wM cy Am μ) mc ms 18 [(0, .ref b), (1, .ref (Ax 0)), (2, .ref (Am 0)), (3, .int (nI (6 * (k + 1))))] []) : XA E (wX cy Ax σ ++ wM cy Am μ) mc ms 663 [(0, .ref b), (1, .ref (Ax 0)), (2, .ref (Am 0)), (3, .int (nI (6 * k)))] [] := by
  refine y_aload_n g 1 dL_law_663 rfl rfl ?_
  refine y_aload_n g 0 dL_law_664 rfl rfl ?_
  refine y_iload_n g 3 dL_law_665 rfl rfl ?_
  refine y_iconst g 1 dL_law_666 (by decide) ?_
  refine y_iadd g dL_law_667 ?_
  refine y_sld g yx (lw_idx (j := 1) hg hL (by decide)) dL_law_668 ?_
  refine y_aload_n g 0 dL_law_669 rfl rfl ?_
  refine y_iload_n g 3 dL_law_670 rfl rfl ?_
  refine y_iconst g 2 dL_law_671 (by decide) ?_
  refine y_iadd g dL_law_672 ?_
  refine y_sld g yx (lw_idx (j := 2) hg hL (by decide)) dL_law_673 ?_
  obtain ⟨σ2, μ2, r, hx1, hm1, hR2⟩ := ok.2.2.2.2.2.2.2.2.2.2.2.2.2.2.2.2.2.1 k σ μ hk hR ((xs (Int32.toNatClampNeg ((nI (6 * k)) + 1)))) ((xs (Int32.toNatClampNeg ((nI (6 * k)) + 2))))
  refine z_callX g yl [.int (xs (Int32.toNatClampNeg ((nI (6 * k)) + 1))), .int (xs (Int32.toNatClampNeg ((nI (6 * k)) + 2)))] [] [.int r] (c_X11_take hAx hx1) mf_X11_take im_X11_take se_X11_take ml_L_86 (Nat.le_of_ble_eq_true rfl) (Nat.le_of_ble_eq_true rfl) hmc hms rfl (Nat.le_of_ble_eq_true rfl) dL_law_674 rfl rfl ?_
  refine y_aload_n g 2 dL_law_677 rfl rfl ?_
  refine y_aload_n g 0 dL_law_678 rfl rfl ?_
  refine y_iload_n g 3 dL_law_679 rfl rfl ?_
  refine y_iconst g 1 dL_law_680 (by decide) ?_
  refine y_iadd g dL_law_681 ?_
  refine y_sld g yx (lw_idx (j := 1) hg hL (by decide)) dL_law_682 ?_
  refine y_aload_n g 0 dL_law_683 rfl rfl ?_
  refine y_iload_n g 3 dL_law_684 rfl rfl ?_
  refine y_iconst g 2 dL_law_685 (by decide) ?_
  refine y_iadd g dL_law_686 ?_
  refine y_sld g yx (lw_idx (j := 2) hg hL (by decide)) dL_law_687 ?_
  refine z_callM g yl [.int (xs (Int32.toNatClampNeg ((nI (6 * k)) + 1))), .int (xs (Int32.toNatClampNeg ((nI (6 * k)) + 2)))] [.int r] [.int r, .int r] (c_X12_take hAm hm1) mf_X12_take im_X12_take se_X12_take ml_L_89 (Nat.le_of_ble_eq_true rfl) (Nat.le_of_ble_eq_true rfl) hmc hms rfl (Nat.le_of_ble_eq_true rfl) dL_law_688 rfl rfl ?_
  refine y_icmp_eq_t g 956 dL_law_691 (by decide) rfl ?_
  refine y_iinc g 3 (nI (6 * (k + 1))) (lv' := [(3, .int (nI (6 * (k + 1)))), (0, .ref b), (1, .ref (Ax 0)), (2, .ref (Am 0))]) dL_law_956 rfl (by rw [show Int32.ofInt 6 = Int32.ofNat 6 from by decide]; simp only [nI]; rw [← Int32.ofNat_add, Nat.mul_succ]) (by decide) rfl ?_
  refine y_goto g 18 dL_law_959 (by decide) ?_
  exact y_sub [1, 2, 3, 0] rfl (ih _ _ hR2)
set_option maxHeartbeats 4000000 in
set_option maxRecDepth 100000 in
theorem lw_fastest {E : EV} {l : Launch} {D : va_G} {cy : Nat → ClassId} {b L : Nat} {xs : Nat → Int32} {Ax Am : Nat → Nat} {Rel : Nat → St → St → Prop} {mc ms : Nat} (hL : L ≤ 3072) (hAx : AdOK 58 Ax) (hAm : AdOK 37 Am) (yl : YL E l D) (g : YG E cy cL_law RL 4 room_1) (yx : YX E b L xs) (ok : OKS Rel) (hmc : mc ≤ 600000) (hms : ms ≤ 7302250) {k : Nat} {σ μ : St} (hk : k < 512) (hR : Rel k σ μ) (hg : 6 * k + 6 ≤ L) (ih : ∀ σ μ, Rel (k + 1) σ μ → XA E (wX cy Ax σ ++ wM cy Am μ) mc ms 18 [(0, .ref b), (1, .ref (Ax 0)), (2, .ref (Am 0)), (3, .int (nI (6 * (k + 1))))] []) : XA E (wX cy Ax σ ++ wM cy Am μ) mc ms 696 [(0, .ref b), (1, .ref (Ax 0)), (2, .ref (Am 0)), (3, .int (nI (6 * k)))] [] := by
  refine y_aload_n g 1 dL_law_696 rfl rfl ?_
  obtain ⟨r, hx1, hm1, hR2⟩ := ok.2.2.2.2.2.2.2.2.2.2.2.2.2.2.2.2.2.2.1 k σ μ hk hR 
  refine z_callX g yl [] [] [.int r] (c_X11_fastest hAx hx1) mf_X11_fastest im_X11_fastest se_X11_fastest ml_L_90 (Nat.le_of_ble_eq_true rfl) (Nat.le_of_ble_eq_true rfl) hmc hms rfl (Nat.le_of_ble_eq_true rfl) dL_law_697 rfl rfl ?_
  refine y_aload_n g 2 dL_law_700 rfl rfl ?_
  refine z_callM g yl [] [.int r] [.int r, .int r] (c_X12_fastest hAm hm1) mf_X12_fastest im_X12_fastest se_X12_fastest ml_L_93 (Nat.le_of_ble_eq_true rfl) (Nat.le_of_ble_eq_true rfl) hmc hms rfl (Nat.le_of_ble_eq_true rfl) dL_law_701 rfl rfl ?_
  refine y_icmp_eq_t g 956 dL_law_704 (by decide) rfl ?_
  refine y_iinc g 3 (nI (6 * (k + 1))) (lv' := [(3, .int (nI (6 * (k + 1)))), (0, .ref b), (1, .ref (Ax 0)), (2, .ref (Am 0))]) dL_law_956 rfl (by rw [show Int32.ofInt 6 = Int32.ofNat 6 from by decide]; simp only [nI]; rw [← Int32.ofNat_add, Nat.mul_succ]) (by decide) rfl ?_
  refine y_goto g 18 dL_law_959 (by decide) ?_
  exact y_sub [1, 2, 3, 0] rfl (ih _ _ hR2)
set_option maxHeartbeats 4000000 in
set_option maxRecDepth 100000 in
theorem lw_stray {E : EV} {l : Launch} {D : va_G} {cy : Nat → ClassId} {b L : Nat} {xs : Nat → Int32} {Ax Am : Nat → Nat} {Rel : Nat → St → St → Prop} {mc ms : Nat} (hL : L ≤ 3072) (hAx : AdOK 58 Ax) (hAm : AdOK 37 Am) (yl : YL E l D) (g : YG E cy cL_law RL 4 room_1) (yx : YX E b L xs) (ok : OKS Rel) (hmc : mc ≤ 600000) (hms : ms ≤ 7302250) {k : Nat} {σ μ : St} (hk : k < 512) (hR : Rel k σ μ) (hg : 6 * k + 6 ≤ L) (ih : ∀ σ μ, Rel (k + 1) σ μ → XA E (wX cy Ax σ ++ wM cy Am μ) mc ms 18 [(0, .ref b), (1, .ref (Ax 0)), (2, .ref (Am 0)), (3, .int (nI (6 * (k + 1))))] []) : XA E (wX cy Ax σ ++ wM cy Am μ) mc ms 709 [(0, .ref b), (1, .ref (Ax 0)), (2, .ref (Am 0)), (3, .int (nI (6 * k)))] [] := by
  refine y_aload_n g 1 dL_law_709 rfl rfl ?_
  refine y_aload_n g 0 dL_law_710 rfl rfl ?_
  refine y_iload_n g 3 dL_law_711 rfl rfl ?_
  refine y_iconst g 1 dL_law_712 (by decide) ?_
  refine y_iadd g dL_law_713 ?_
  refine y_sld g yx (lw_idx (j := 1) hg hL (by decide)) dL_law_714 ?_
  refine y_aload_n g 0 dL_law_715 rfl rfl ?_
  refine y_iload_n g 3 dL_law_716 rfl rfl ?_
  refine y_iconst g 2 dL_law_717 (by decide) ?_
  refine y_iadd g dL_law_718 ?_
  refine y_sld g yx (lw_idx (j := 2) hg hL (by decide)) dL_law_719 ?_
  refine y_aload_n g 0 dL_law_720 rfl rfl ?_
  refine y_iload_n g 3 dL_law_721 rfl rfl ?_
  refine y_iconst g 3 dL_law_722 (by decide) ?_
  refine y_iadd g dL_law_723 ?_
  refine y_sld g yx (lw_idx (j := 3) hg hL (by decide)) dL_law_724 ?_
  by_cases hz : (xs (Int32.toNatClampNeg ((nI (6 * k)) + 3))) = 0
  · refine y_if_eq_t g 732 dL_law_725 (by decide) hz ?_
    refine y_iconst g 0 dL_law_732 (by decide) ?_
    obtain ⟨σ2, μ2, r, hx1, hm1, hR2⟩ := ok.2.2.2.2.2.2.2.2.2.2.2.2.2.2.2.2.2.2.2.1 k σ μ hk hR ((xs (Int32.toNatClampNeg ((nI (6 * k)) + 1)))) ((xs (Int32.toNatClampNeg ((nI (6 * k)) + 2)))) (0) (by decide)
    refine z_callX g yl [.int (xs (Int32.toNatClampNeg ((nI (6 * k)) + 1))), .int (xs (Int32.toNatClampNeg ((nI (6 * k)) + 2))), .int 0] [] [.int r] (c_X11_stray hAx hx1) mf_X11_stray im_X11_stray se_X11_stray ml_L_94 (Nat.le_of_ble_eq_true rfl) (Nat.le_of_ble_eq_true rfl) hmc hms rfl (Nat.le_of_ble_eq_true rfl) dL_law_733 rfl rfl ?_
    refine y_aload_n g 2 dL_law_736 rfl rfl ?_
    refine y_aload_n g 0 dL_law_737 rfl rfl ?_
    refine y_iload_n g 3 dL_law_738 rfl rfl ?_
    refine y_iconst g 1 dL_law_739 (by decide) ?_
    refine y_iadd g dL_law_740 ?_
    refine y_sld g yx (lw_idx (j := 1) hg hL (by decide)) dL_law_741 ?_
    refine y_aload_n g 0 dL_law_742 rfl rfl ?_
    refine y_iload_n g 3 dL_law_743 rfl rfl ?_
    refine y_iconst g 2 dL_law_744 (by decide) ?_
    refine y_iadd g dL_law_745 ?_
    refine y_sld g yx (lw_idx (j := 2) hg hL (by decide)) dL_law_746 ?_
    refine y_aload_n g 0 dL_law_747 rfl rfl ?_
    refine y_iload_n g 3 dL_law_748 rfl rfl ?_
    refine y_iconst g 3 dL_law_749 (by decide) ?_
    refine y_iadd g dL_law_750 ?_
    refine y_sld g yx (lw_idx (j := 3) hg hL (by decide)) dL_law_751 ?_
    refine y_if_eq_t g 759 dL_law_752 (by decide) hz ?_
    refine y_iconst g 0 dL_law_759 (by decide) ?_
    refine z_callM g yl [.int (xs (Int32.toNatClampNeg ((nI (6 * k)) + 1))), .int (xs (Int32.toNatClampNeg ((nI (6 * k)) + 2))), .int 0] [.int r] [.int r, .int r] (c_X12_stray hAm hm1) mf_X12_stray im_X12_stray se_X12_stray ml_L_98 (Nat.le_of_ble_eq_true rfl) (Nat.le_of_ble_eq_true rfl) hmc hms rfl (Nat.le_of_ble_eq_true rfl) dL_law_760 rfl rfl ?_
    refine y_icmp_eq_t g 956 dL_law_763 (by decide) rfl ?_
    refine y_iinc g 3 (nI (6 * (k + 1))) (lv' := [(3, .int (nI (6 * (k + 1)))), (0, .ref b), (1, .ref (Ax 0)), (2, .ref (Am 0))]) dL_law_956 rfl (by rw [show Int32.ofInt 6 = Int32.ofNat 6 from by decide]; simp only [nI]; rw [← Int32.ofNat_add, Nat.mul_succ]) (by decide) rfl ?_
    refine y_goto g 18 dL_law_959 (by decide) ?_
    exact y_sub [1, 2, 3, 0] rfl (ih _ _ hR2)
  · refine y_if_eq_f g 732 dL_law_725 (by decide) hz ?_
    refine y_iconst g 1 dL_law_728 (by decide) ?_
    refine y_goto g 733 dL_law_729 (by decide) ?_
    obtain ⟨σ2, μ2, r, hx1, hm1, hR2⟩ := ok.2.2.2.2.2.2.2.2.2.2.2.2.2.2.2.2.2.2.2.1 k σ μ hk hR ((xs (Int32.toNatClampNeg ((nI (6 * k)) + 1)))) ((xs (Int32.toNatClampNeg ((nI (6 * k)) + 2)))) (1) (by decide)
    refine z_callX g yl [.int (xs (Int32.toNatClampNeg ((nI (6 * k)) + 1))), .int (xs (Int32.toNatClampNeg ((nI (6 * k)) + 2))), .int 1] [] [.int r] (c_X11_stray hAx hx1) mf_X11_stray im_X11_stray se_X11_stray ml_L_94 (Nat.le_of_ble_eq_true rfl) (Nat.le_of_ble_eq_true rfl) hmc hms rfl (Nat.le_of_ble_eq_true rfl) dL_law_733 rfl rfl ?_
    refine y_aload_n g 2 dL_law_736 rfl rfl ?_
    refine y_aload_n g 0 dL_law_737 rfl rfl ?_
    refine y_iload_n g 3 dL_law_738 rfl rfl ?_
    refine y_iconst g 1 dL_law_739 (by decide) ?_
    refine y_iadd g dL_law_740 ?_
    refine y_sld g yx (lw_idx (j := 1) hg hL (by decide)) dL_law_741 ?_
    refine y_aload_n g 0 dL_law_742 rfl rfl ?_
    refine y_iload_n g 3 dL_law_743 rfl rfl ?_
    refine y_iconst g 2 dL_law_744 (by decide) ?_
    refine y_iadd g dL_law_745 ?_
    refine y_sld g yx (lw_idx (j := 2) hg hL (by decide)) dL_law_746 ?_
    refine y_aload_n g 0 dL_law_747 rfl rfl ?_
    refine y_iload_n g 3 dL_law_748 rfl rfl ?_
    refine y_iconst g 3 dL_law_749 (by decide) ?_
    refine y_iadd g dL_law_750 ?_
    refine y_sld g yx (lw_idx (j := 3) hg hL (by decide)) dL_law_751 ?_
    refine y_if_eq_f g 759 dL_law_752 (by decide) hz ?_
    refine y_iconst g 1 dL_law_755 (by decide) ?_
    refine y_goto g 760 dL_law_756 (by decide) ?_
    refine z_callM g yl [.int (xs (Int32.toNatClampNeg ((nI (6 * k)) + 1))), .int (xs (Int32.toNatClampNeg ((nI (6 * k)) + 2))), .int 1] [.int r] [.int r, .int r] (c_X12_stray hAm hm1) mf_X12_stray im_X12_stray se_X12_stray ml_L_98 (Nat.le_of_ble_eq_true rfl) (Nat.le_of_ble_eq_true rfl) hmc hms rfl (Nat.le_of_ble_eq_true rfl) dL_law_760 rfl rfl ?_
    refine y_icmp_eq_t g 956 dL_law_763 (by decide) rfl ?_
    refine y_iinc g 3 (nI (6 * (k + 1))) (lv' := [(3, .int (nI (6 * (k + 1)))), (0, .ref b), (1, .ref (Ax 0)), (2, .ref (Am 0))]) dL_law_956 rfl (by rw [show Int32.ofInt 6 = Int32.ofNat 6 from by decide]; simp only [nI]; rw [← Int32.ofNat_add, Nat.mul_succ]) (by decide) rfl ?_
    refine y_goto g 18 dL_law_959 (by decide) ?_
    exact y_sub [1, 2, 3, 0] rfl (ih _ _ hR2)
set_option maxHeartbeats 4000000 in
set_option maxRecDepth 100000 in
theorem lw_straying {E : EV} {l : Launch} {D : va_G} {cy : Nat → ClassId} {b L : Nat} {xs : Nat → Int32} {Ax Am : Nat → Nat} {Rel : Nat → St → St → Prop} {mc ms : Nat} (hL : L ≤ 3072) (hAx : AdOK 58 Ax) (hAm : AdOK 37 Am) (yl : YL E l D) (g : YG E cy cL_law RL 4 room_1) (yx : YX E b L xs) (ok : OKS Rel) (hmc : mc ≤ 600000) (hms : ms ≤ 7302250) {k : Nat} {σ μ : St} (hk : k < 512) (hR : Rel k σ μ) (hg : 6 * k + 6 ≤ L) (ih : ∀ σ μ, Rel (k + 1) σ μ → XA E (wX cy Ax σ ++ wM cy Am μ) mc ms 18 [(0, .ref b), (1, .ref (Ax 0)), (2, .ref (Am 0)), (3, .int (nI (6 * (k + 1))))] []) : XA E (wX cy Ax σ ++ wM cy Am μ) mc ms 768 [(0, .ref b), (1, .ref (Ax 0)), (2, .ref (Am 0)), (3, .int (nI (6 * k)))] [] := by
  refine y_aload_n g 1 dL_law_768 rfl rfl ?_
  refine y_aload_n g 0 dL_law_769 rfl rfl ?_
  refine y_iload_n g 3 dL_law_770 rfl rfl ?_
  refine y_iconst g 1 dL_law_771 (by decide) ?_
  refine y_iadd g dL_law_772 ?_
  refine y_sld g yx (lw_idx (j := 1) hg hL (by decide)) dL_law_773 ?_
  refine y_aload_n g 0 dL_law_774 rfl rfl ?_
  refine y_iload_n g 3 dL_law_775 rfl rfl ?_
  refine y_iconst g 2 dL_law_776 (by decide) ?_
  refine y_iadd g dL_law_777 ?_
  refine y_sld g yx (lw_idx (j := 2) hg hL (by decide)) dL_law_778 ?_
  obtain ⟨r, hx1, hm1, hR2⟩ := ok.2.2.2.2.2.2.2.2.2.2.2.2.2.2.2.2.2.2.2.2.1 k σ μ hk hR ((xs (Int32.toNatClampNeg ((nI (6 * k)) + 1)))) ((xs (Int32.toNatClampNeg ((nI (6 * k)) + 2))))
  refine z_callX g yl [.int (xs (Int32.toNatClampNeg ((nI (6 * k)) + 1))), .int (xs (Int32.toNatClampNeg ((nI (6 * k)) + 2)))] [] [.int r] (c_X11_straying hAx hx1) mf_X11_straying im_X11_straying se_X11_straying ml_L_99 (Nat.le_of_ble_eq_true rfl) (Nat.le_of_ble_eq_true rfl) hmc hms rfl (Nat.le_of_ble_eq_true rfl) dL_law_779 rfl rfl ?_
  refine y_aload_n g 2 dL_law_782 rfl rfl ?_
  refine y_aload_n g 0 dL_law_783 rfl rfl ?_
  refine y_iload_n g 3 dL_law_784 rfl rfl ?_
  refine y_iconst g 1 dL_law_785 (by decide) ?_
  refine y_iadd g dL_law_786 ?_
  refine y_sld g yx (lw_idx (j := 1) hg hL (by decide)) dL_law_787 ?_
  refine y_aload_n g 0 dL_law_788 rfl rfl ?_
  refine y_iload_n g 3 dL_law_789 rfl rfl ?_
  refine y_iconst g 2 dL_law_790 (by decide) ?_
  refine y_iadd g dL_law_791 ?_
  refine y_sld g yx (lw_idx (j := 2) hg hL (by decide)) dL_law_792 ?_
  refine z_callM g yl [.int (xs (Int32.toNatClampNeg ((nI (6 * k)) + 1))), .int (xs (Int32.toNatClampNeg ((nI (6 * k)) + 2)))] [.int r] [.int r, .int r] (c_X12_straying hAm hm1) mf_X12_straying im_X12_straying se_X12_straying ml_L_102 (Nat.le_of_ble_eq_true rfl) (Nat.le_of_ble_eq_true rfl) hmc hms rfl (Nat.le_of_ble_eq_true rfl) dL_law_793 rfl rfl ?_
  refine y_icmp_eq_t g 956 dL_law_796 (by decide) rfl ?_
  refine y_iinc g 3 (nI (6 * (k + 1))) (lv' := [(3, .int (nI (6 * (k + 1)))), (0, .ref b), (1, .ref (Ax 0)), (2, .ref (Am 0))]) dL_law_956 rfl (by rw [show Int32.ofInt 6 = Int32.ofNat 6 from by decide]; simp only [nI]; rw [← Int32.ofNat_add, Nat.mul_succ]) (by decide) rfl ?_
  refine y_goto g 18 dL_law_959 (by decide) ?_
  exact y_sub [1, 2, 3, 0] rfl (ih _ _ hR2)
set_option maxHeartbeats 4000000 in
set_option maxRecDepth 100000 in
theorem lw_arrived {E : EV} {l : Launch} {D : va_G} {cy : Nat → ClassId} {b L : Nat} {xs : Nat → Int32} {Ax Am : Nat → Nat} {Rel : Nat → St → St → Prop} {mc ms : Nat} (hL : L ≤ 3072) (hAx : AdOK 58 Ax) (hAm : AdOK 37 Am) (yl : YL E l D) (g : YG E cy cL_law RL 4 room_1) (yx : YX E b L xs) (ok : OKS Rel) (hmc : mc ≤ 600000) (hms : ms ≤ 7302250) {k : Nat} {σ μ : St} (hk : k < 512) (hR : Rel k σ μ) (hg : 6 * k + 6 ≤ L) (ih : ∀ σ μ, Rel (k + 1) σ μ → XA E (wX cy Ax σ ++ wM cy Am μ) mc ms 18 [(0, .ref b), (1, .ref (Ax 0)), (2, .ref (Am 0)), (3, .int (nI (6 * (k + 1))))] []) : XA E (wX cy Ax σ ++ wM cy Am μ) mc ms 801 [(0, .ref b), (1, .ref (Ax 0)), (2, .ref (Am 0)), (3, .int (nI (6 * k)))] [] := by
  refine y_aload_n g 1 dL_law_801 rfl rfl ?_
  refine y_aload_n g 0 dL_law_802 rfl rfl ?_
  refine y_iload_n g 3 dL_law_803 rfl rfl ?_
  refine y_iconst g 1 dL_law_804 (by decide) ?_
  refine y_iadd g dL_law_805 ?_
  refine y_sld g yx (lw_idx (j := 1) hg hL (by decide)) dL_law_806 ?_
  by_cases hz : (xs (Int32.toNatClampNeg ((nI (6 * k)) + 1))) = 0
  · refine y_if_eq_t g 814 dL_law_807 (by decide) hz ?_
    refine y_iconst g 0 dL_law_814 (by decide) ?_
    refine y_aload_n g 0 dL_law_815 rfl rfl ?_
    refine y_iload_n g 3 dL_law_816 rfl rfl ?_
    refine y_iconst g 2 dL_law_817 (by decide) ?_
    refine y_iadd g dL_law_818 ?_
    refine y_sld g yx (lw_idx (j := 2) hg hL (by decide)) dL_law_819 ?_
    obtain ⟨r, hx1, hm1, hR2⟩ := ok.2.2.2.2.2.2.2.2.2.2.2.2.2.2.2.2.2.2.2.2.2.1 k σ μ hk hR (0) ((xs (Int32.toNatClampNeg ((nI (6 * k)) + 2)))) (by decide)
    refine z_callX g yl [.int 0, .int (xs (Int32.toNatClampNeg ((nI (6 * k)) + 2)))] [] [.int r] (c_X11_arrived hAx hx1) mf_X11_arrived im_X11_arrived se_X11_arrived ml_L_103 (Nat.le_of_ble_eq_true rfl) (Nat.le_of_ble_eq_true rfl) hmc hms rfl (Nat.le_of_ble_eq_true rfl) dL_law_820 rfl rfl ?_
    refine y_aload_n g 2 dL_law_823 rfl rfl ?_
    refine y_aload_n g 0 dL_law_824 rfl rfl ?_
    refine y_iload_n g 3 dL_law_825 rfl rfl ?_
    refine y_iconst g 1 dL_law_826 (by decide) ?_
    refine y_iadd g dL_law_827 ?_
    refine y_sld g yx (lw_idx (j := 1) hg hL (by decide)) dL_law_828 ?_
    refine y_if_eq_t g 836 dL_law_829 (by decide) hz ?_
    refine y_iconst g 0 dL_law_836 (by decide) ?_
    refine y_aload_n g 0 dL_law_837 rfl rfl ?_
    refine y_iload_n g 3 dL_law_838 rfl rfl ?_
    refine y_iconst g 2 dL_law_839 (by decide) ?_
    refine y_iadd g dL_law_840 ?_
    refine y_sld g yx (lw_idx (j := 2) hg hL (by decide)) dL_law_841 ?_
    refine z_callM g yl [.int 0, .int (xs (Int32.toNatClampNeg ((nI (6 * k)) + 2)))] [.int r] [.int r, .int r] (c_X12_arrived hAm hm1) mf_X12_arrived im_X12_arrived se_X12_arrived ml_L_107 (Nat.le_of_ble_eq_true rfl) (Nat.le_of_ble_eq_true rfl) hmc hms rfl (Nat.le_of_ble_eq_true rfl) dL_law_842 rfl rfl ?_
    refine y_icmp_eq_t g 956 dL_law_845 (by decide) rfl ?_
    refine y_iinc g 3 (nI (6 * (k + 1))) (lv' := [(3, .int (nI (6 * (k + 1)))), (0, .ref b), (1, .ref (Ax 0)), (2, .ref (Am 0))]) dL_law_956 rfl (by rw [show Int32.ofInt 6 = Int32.ofNat 6 from by decide]; simp only [nI]; rw [← Int32.ofNat_add, Nat.mul_succ]) (by decide) rfl ?_
    refine y_goto g 18 dL_law_959 (by decide) ?_
    exact y_sub [1, 2, 3, 0] rfl (ih _ _ hR2)
  · refine y_if_eq_f g 814 dL_law_807 (by decide) hz ?_
    refine y_iconst g 1 dL_law_810 (by decide) ?_
    refine y_goto g 815 dL_law_811 (by decide) ?_
    refine y_aload_n g 0 dL_law_815 rfl rfl ?_
    refine y_iload_n g 3 dL_law_816 rfl rfl ?_
    refine y_iconst g 2 dL_law_817 (by decide) ?_
    refine y_iadd g dL_law_818 ?_
    refine y_sld g yx (lw_idx (j := 2) hg hL (by decide)) dL_law_819 ?_
    obtain ⟨r, hx1, hm1, hR2⟩ := ok.2.2.2.2.2.2.2.2.2.2.2.2.2.2.2.2.2.2.2.2.2.1 k σ μ hk hR (1) ((xs (Int32.toNatClampNeg ((nI (6 * k)) + 2)))) (by decide)
    refine z_callX g yl [.int 1, .int (xs (Int32.toNatClampNeg ((nI (6 * k)) + 2)))] [] [.int r] (c_X11_arrived hAx hx1) mf_X11_arrived im_X11_arrived se_X11_arrived ml_L_103 (Nat.le_of_ble_eq_true rfl) (Nat.le_of_ble_eq_true rfl) hmc hms rfl (Nat.le_of_ble_eq_true rfl) dL_law_820 rfl rfl ?_
    refine y_aload_n g 2 dL_law_823 rfl rfl ?_
    refine y_aload_n g 0 dL_law_824 rfl rfl ?_
    refine y_iload_n g 3 dL_law_825 rfl rfl ?_
    refine y_iconst g 1 dL_law_826 (by decide) ?_
    refine y_iadd g dL_law_827 ?_
    refine y_sld g yx (lw_idx (j := 1) hg hL (by decide)) dL_law_828 ?_
    refine y_if_eq_f g 836 dL_law_829 (by decide) hz ?_
    refine y_iconst g 1 dL_law_832 (by decide) ?_
    refine y_goto g 837 dL_law_833 (by decide) ?_
    refine y_aload_n g 0 dL_law_837 rfl rfl ?_
    refine y_iload_n g 3 dL_law_838 rfl rfl ?_
    refine y_iconst g 2 dL_law_839 (by decide) ?_
    refine y_iadd g dL_law_840 ?_
    refine y_sld g yx (lw_idx (j := 2) hg hL (by decide)) dL_law_841 ?_
    refine z_callM g yl [.int 1, .int (xs (Int32.toNatClampNeg ((nI (6 * k)) + 2)))] [.int r] [.int r, .int r] (c_X12_arrived hAm hm1) mf_X12_arrived im_X12_arrived se_X12_arrived ml_L_107 (Nat.le_of_ble_eq_true rfl) (Nat.le_of_ble_eq_true rfl) hmc hms rfl (Nat.le_of_ble_eq_true rfl) dL_law_842 rfl rfl ?_
    refine y_icmp_eq_t g 956 dL_law_845 (by decide) rfl ?_
    refine y_iinc g 3 (nI (6 * (k + 1))) (lv' := [(3, .int (nI (6 * (k + 1)))), (0, .ref b), (1, .ref (Ax 0)), (2, .ref (Am 0))]) dL_law_956 rfl (by rw [show Int32.ofInt 6 = Int32.ofNat 6 from by decide]; simp only [nI]; rw [← Int32.ofNat_add, Nat.mul_succ]) (by decide) rfl ?_
    refine y_goto g 18 dL_law_959 (by decide) ?_
    exact y_sub [1, 2, 3, 0] rfl (ih _ _ hR2)
set_option maxHeartbeats 4000000 in
set_option maxRecDepth 100000 in
theorem lw_faster {E : EV} {l : Launch} {D : va_G} {cy : Nat → ClassId} {b L : Nat} {xs : Nat → Int32} {Ax Am : Nat → Nat} {Rel : Nat → St → St → Prop} {mc ms : Nat} (hL : L ≤ 3072) (hAx : AdOK 58 Ax) (hAm : AdOK 37 Am) (yl : YL E l D) (g : YG E cy cL_law RL 4 room_1) (yx : YX E b L xs) (ok : OKS Rel) (hmc : mc ≤ 600000) (hms : ms ≤ 7302250) {k : Nat} {σ μ : St} (hk : k < 512) (hR : Rel k σ μ) (hg : 6 * k + 6 ≤ L) (ih : ∀ σ μ, Rel (k + 1) σ μ → XA E (wX cy Ax σ ++ wM cy Am μ) mc ms 18 [(0, .ref b), (1, .ref (Ax 0)), (2, .ref (Am 0)), (3, .int (nI (6 * (k + 1))))] []) : XA E (wX cy Ax σ ++ wM cy Am μ) mc ms 850 [(0, .ref b), (1, .ref (Ax 0)), (2, .ref (Am 0)), (3, .int (nI (6 * k)))] [] := by
  refine y_aload_n g 1 dL_law_850 rfl rfl ?_
  obtain ⟨r, hx1, hm1, hR2⟩ := ok.2.2.2.2.2.2.2.2.2.2.2.2.2.2.2.2.2.2.2.2.2.2.1 k σ μ hk hR 
  refine z_callX g yl [] [] [.int r] (c_X11_faster hAx hx1) mf_X11_faster im_X11_faster se_X11_faster ml_L_108 (Nat.le_of_ble_eq_true rfl) (Nat.le_of_ble_eq_true rfl) hmc hms rfl (Nat.le_of_ble_eq_true rfl) dL_law_851 rfl rfl ?_
  refine y_aload_n g 2 dL_law_854 rfl rfl ?_
  refine z_callM g yl [] [.int r] [.int r, .int r] (c_X12_faster hAm hm1) mf_X12_faster im_X12_faster se_X12_faster ml_L_111 (Nat.le_of_ble_eq_true rfl) (Nat.le_of_ble_eq_true rfl) hmc hms rfl (Nat.le_of_ble_eq_true rfl) dL_law_855 rfl rfl ?_
  refine y_icmp_eq_t g 956 dL_law_858 (by decide) rfl ?_
  refine y_iinc g 3 (nI (6 * (k + 1))) (lv' := [(3, .int (nI (6 * (k + 1)))), (0, .ref b), (1, .ref (Ax 0)), (2, .ref (Am 0))]) dL_law_956 rfl (by rw [show Int32.ofInt 6 = Int32.ofNat 6 from by decide]; simp only [nI]; rw [← Int32.ofNat_add, Nat.mul_succ]) (by decide) rfl ?_
  refine y_goto g 18 dL_law_959 (by decide) ?_
  exact y_sub [1, 2, 3, 0] rfl (ih _ _ hR2)
set_option maxHeartbeats 4000000 in
set_option maxRecDepth 100000 in
theorem lw_run {E : EV} {l : Launch} {D : va_G} {cy : Nat → ClassId} {b L : Nat} {xs : Nat → Int32} {Ax Am : Nat → Nat} {Rel : Nat → St → St → Prop} {mc ms : Nat} (hL : L ≤ 3072) (hAx : AdOK 58 Ax) (hAm : AdOK 37 Am) (yl : YL E l D) (g : YG E cy cL_law RL 4 room_1) (yx : YX E b L xs) (ok : OKS Rel) (hmc : mc ≤ 600000) (hms : ms ≤ 7302250) {k : Nat} {σ μ : St} (hk : k < 512) (hR : Rel k σ μ) (hg : 6 * k + 6 ≤ L) (ih : ∀ σ μ, Rel (k + 1) σ μ → XA E (wX cy Ax σ ++ wM cy Am μ) mc ms 18 [(0, .ref b), (1, .ref (Ax 0)), (2, .ref (Am 0)), (3, .int (nI (6 * (k + 1))))] []) : XA E (wX cy Ax σ ++ wM cy Am μ) mc ms 863 [(0, .ref b), (1, .ref (Ax 0)), (2, .ref (Am 0)), (3, .int (nI (6 * k)))] [] := by
  refine y_aload_n g 1 dL_law_863 rfl rfl ?_
  refine y_aload_n g 0 dL_law_864 rfl rfl ?_
  refine y_iload_n g 3 dL_law_865 rfl rfl ?_
  refine y_iconst g 1 dL_law_866 (by decide) ?_
  refine y_iadd g dL_law_867 ?_
  refine y_sld g yx (lw_idx (j := 1) hg hL (by decide)) dL_law_868 ?_
  obtain ⟨σ2, μ2, r, hx1, hm1, hR2⟩ := ok.2.2.2.2.2.2.2.2.2.2.2.2.2.2.2.2.2.2.2.2.2.2.2.1 k σ μ hk hR ((xs (Int32.toNatClampNeg ((nI (6 * k)) + 1))))
  refine z_callX g yl [.int (xs (Int32.toNatClampNeg ((nI (6 * k)) + 1)))] [] [.int r] (c_X11_run hAx hx1) mf_X11_run im_X11_run se_X11_run ml_L_112 (Nat.le_of_ble_eq_true rfl) (Nat.le_of_ble_eq_true rfl) hmc hms rfl (Nat.le_of_ble_eq_true rfl) dL_law_869 rfl rfl ?_
  refine y_aload_n g 2 dL_law_872 rfl rfl ?_
  refine y_aload_n g 0 dL_law_873 rfl rfl ?_
  refine y_iload_n g 3 dL_law_874 rfl rfl ?_
  refine y_iconst g 1 dL_law_875 (by decide) ?_
  refine y_iadd g dL_law_876 ?_
  refine y_sld g yx (lw_idx (j := 1) hg hL (by decide)) dL_law_877 ?_
  refine z_callM g yl [.int (xs (Int32.toNatClampNeg ((nI (6 * k)) + 1)))] [.int r] [.int r, .int r] (c_X12_run hAm hm1) mf_X12_run im_X12_run se_X12_run ml_L_115 (Nat.le_of_ble_eq_true rfl) (Nat.le_of_ble_eq_true rfl) hmc hms rfl (Nat.le_of_ble_eq_true rfl) dL_law_878 rfl rfl ?_
  refine y_icmp_eq_t g 956 dL_law_881 (by decide) rfl ?_
  refine y_iinc g 3 (nI (6 * (k + 1))) (lv' := [(3, .int (nI (6 * (k + 1)))), (0, .ref b), (1, .ref (Ax 0)), (2, .ref (Am 0))]) dL_law_956 rfl (by rw [show Int32.ofInt 6 = Int32.ofNat 6 from by decide]; simp only [nI]; rw [← Int32.ofNat_add, Nat.mul_succ]) (by decide) rfl ?_
  refine y_goto g 18 dL_law_959 (by decide) ?_
  exact y_sub [1, 2, 3, 0] rfl (ih _ _ hR2)
set_option maxHeartbeats 4000000 in
set_option maxRecDepth 100000 in
theorem lw_storm {E : EV} {l : Launch} {D : va_G} {cy : Nat → ClassId} {b L : Nat} {xs : Nat → Int32} {Ax Am : Nat → Nat} {Rel : Nat → St → St → Prop} {mc ms : Nat} (hL : L ≤ 3072) (hAx : AdOK 58 Ax) (hAm : AdOK 37 Am) (yl : YL E l D) (g : YG E cy cL_law RL 4 room_1) (yx : YX E b L xs) (ok : OKS Rel) (hmc : mc ≤ 600000) (hms : ms ≤ 7302250) {k : Nat} {σ μ : St} (hk : k < 512) (hR : Rel k σ μ) (hg : 6 * k + 6 ≤ L) (ih : ∀ σ μ, Rel (k + 1) σ μ → XA E (wX cy Ax σ ++ wM cy Am μ) mc ms 18 [(0, .ref b), (1, .ref (Ax 0)), (2, .ref (Am 0)), (3, .int (nI (6 * (k + 1))))] []) : XA E (wX cy Ax σ ++ wM cy Am μ) mc ms 886 [(0, .ref b), (1, .ref (Ax 0)), (2, .ref (Am 0)), (3, .int (nI (6 * k)))] [] := by
  refine y_aload_n g 1 dL_law_886 rfl rfl ?_
  refine y_aload_n g 0 dL_law_887 rfl rfl ?_
  refine y_iload_n g 3 dL_law_888 rfl rfl ?_
  refine y_iconst g 1 dL_law_889 (by decide) ?_
  refine y_iadd g dL_law_890 ?_
  refine y_sld g yx (lw_idx (j := 1) hg hL (by decide)) dL_law_891 ?_
  refine y_aload_n g 0 dL_law_892 rfl rfl ?_
  refine y_iload_n g 3 dL_law_893 rfl rfl ?_
  refine y_iconst g 2 dL_law_894 (by decide) ?_
  refine y_iadd g dL_law_895 ?_
  refine y_sld g yx (lw_idx (j := 2) hg hL (by decide)) dL_law_896 ?_
  obtain ⟨σ2, μ2, r, hx1, hm1, hR2⟩ := ok.2.2.2.2.2.2.2.2.2.2.2.2.2.2.2.2.2.2.2.2.2.2.2.2.1 k σ μ hk hR ((xs (Int32.toNatClampNeg ((nI (6 * k)) + 1)))) ((xs (Int32.toNatClampNeg ((nI (6 * k)) + 2))))
  refine z_callX g yl [.int (xs (Int32.toNatClampNeg ((nI (6 * k)) + 1))), .int (xs (Int32.toNatClampNeg ((nI (6 * k)) + 2)))] [] [.int r] (c_X11_storm hAx hx1) mf_X11_storm im_X11_storm se_X11_storm ml_L_116 (Nat.le_of_ble_eq_true rfl) (Nat.le_of_ble_eq_true rfl) hmc hms rfl (Nat.le_of_ble_eq_true rfl) dL_law_897 rfl rfl ?_
  refine y_aload_n g 2 dL_law_900 rfl rfl ?_
  refine y_aload_n g 0 dL_law_901 rfl rfl ?_
  refine y_iload_n g 3 dL_law_902 rfl rfl ?_
  refine y_iconst g 1 dL_law_903 (by decide) ?_
  refine y_iadd g dL_law_904 ?_
  refine y_sld g yx (lw_idx (j := 1) hg hL (by decide)) dL_law_905 ?_
  refine y_aload_n g 0 dL_law_906 rfl rfl ?_
  refine y_iload_n g 3 dL_law_907 rfl rfl ?_
  refine y_iconst g 2 dL_law_908 (by decide) ?_
  refine y_iadd g dL_law_909 ?_
  refine y_sld g yx (lw_idx (j := 2) hg hL (by decide)) dL_law_910 ?_
  refine z_callM g yl [.int (xs (Int32.toNatClampNeg ((nI (6 * k)) + 1))), .int (xs (Int32.toNatClampNeg ((nI (6 * k)) + 2)))] [.int r] [.int r, .int r] (c_X12_storm hAm hm1) mf_X12_storm im_X12_storm se_X12_storm ml_L_119 (Nat.le_of_ble_eq_true rfl) (Nat.le_of_ble_eq_true rfl) hmc hms rfl (Nat.le_of_ble_eq_true rfl) dL_law_911 rfl rfl ?_
  refine y_icmp_eq_t g 956 dL_law_914 (by decide) rfl ?_
  refine y_iinc g 3 (nI (6 * (k + 1))) (lv' := [(3, .int (nI (6 * (k + 1)))), (0, .ref b), (1, .ref (Ax 0)), (2, .ref (Am 0))]) dL_law_956 rfl (by rw [show Int32.ofInt 6 = Int32.ofNat 6 from by decide]; simp only [nI]; rw [← Int32.ofNat_add, Nat.mul_succ]) (by decide) rfl ?_
  refine y_goto g 18 dL_law_959 (by decide) ?_
  exact y_sub [1, 2, 3, 0] rfl (ih _ _ hR2)
set_option maxHeartbeats 4000000 in
set_option maxRecDepth 100000 in
theorem lw_count {E : EV} {l : Launch} {D : va_G} {cy : Nat → ClassId} {b L : Nat} {xs : Nat → Int32} {Ax Am : Nat → Nat} {Rel : Nat → St → St → Prop} {mc ms : Nat} (hL : L ≤ 3072) (hAx : AdOK 58 Ax) (hAm : AdOK 37 Am) (yl : YL E l D) (g : YG E cy cL_law RL 4 room_1) (yx : YX E b L xs) (ok : OKS Rel) (hmc : mc ≤ 600000) (hms : ms ≤ 7302250) {k : Nat} {σ μ : St} (hk : k < 512) (hR : Rel k σ μ) (hg : 6 * k + 6 ≤ L) (ih : ∀ σ μ, Rel (k + 1) σ μ → XA E (wX cy Ax σ ++ wM cy Am μ) mc ms 18 [(0, .ref b), (1, .ref (Ax 0)), (2, .ref (Am 0)), (3, .int (nI (6 * (k + 1))))] []) : XA E (wX cy Ax σ ++ wM cy Am μ) mc ms 919 [(0, .ref b), (1, .ref (Ax 0)), (2, .ref (Am 0)), (3, .int (nI (6 * k)))] [] := by
  refine y_aload_n g 1 dL_law_919 rfl rfl ?_
  refine y_aload_n g 0 dL_law_920 rfl rfl ?_
  refine y_iload_n g 3 dL_law_921 rfl rfl ?_
  refine y_iconst g 1 dL_law_922 (by decide) ?_
  refine y_iadd g dL_law_923 ?_
  refine y_sld g yx (lw_idx (j := 1) hg hL (by decide)) dL_law_924 ?_
  obtain ⟨r, hx1, hm1, hR2⟩ := ok.2.2.2.2.2.2.2.2.2.2.2.2.2.2.2.2.2.2.2.2.2.2.2.2.2.1 k σ μ hk hR ((xs (Int32.toNatClampNeg ((nI (6 * k)) + 1))))
  refine z_callX g yl [.int (xs (Int32.toNatClampNeg ((nI (6 * k)) + 1)))] [] [.int r] (c_X11_count hAx hx1) mf_X11_count im_X11_count se_X11_count ml_L_120 (Nat.le_of_ble_eq_true rfl) (Nat.le_of_ble_eq_true rfl) hmc hms rfl (Nat.le_of_ble_eq_true rfl) dL_law_925 rfl rfl ?_
  refine y_aload_n g 2 dL_law_928 rfl rfl ?_
  refine y_aload_n g 0 dL_law_929 rfl rfl ?_
  refine y_iload_n g 3 dL_law_930 rfl rfl ?_
  refine y_iconst g 1 dL_law_931 (by decide) ?_
  refine y_iadd g dL_law_932 ?_
  refine y_sld g yx (lw_idx (j := 1) hg hL (by decide)) dL_law_933 ?_
  refine z_callM g yl [.int (xs (Int32.toNatClampNeg ((nI (6 * k)) + 1)))] [.int r] [.int r, .int r] (c_X12_count hAm hm1) mf_X12_count im_X12_count se_X12_count ml_L_123 (Nat.le_of_ble_eq_true rfl) (Nat.le_of_ble_eq_true rfl) hmc hms rfl (Nat.le_of_ble_eq_true rfl) dL_law_934 rfl rfl ?_
  refine y_icmp_eq_t g 956 dL_law_937 (by decide) rfl ?_
  refine y_iinc g 3 (nI (6 * (k + 1))) (lv' := [(3, .int (nI (6 * (k + 1)))), (0, .ref b), (1, .ref (Ax 0)), (2, .ref (Am 0))]) dL_law_956 rfl (by rw [show Int32.ofInt 6 = Int32.ofNat 6 from by decide]; simp only [nI]; rw [← Int32.ofNat_add, Nat.mul_succ]) (by decide) rfl ?_
  refine y_goto g 18 dL_law_959 (by decide) ?_
  exact y_sub [1, 2, 3, 0] rfl (ih _ _ hR2)
set_option maxHeartbeats 4000000 in
set_option maxRecDepth 100000 in
theorem lw_digest {E : EV} {l : Launch} {D : va_G} {cy : Nat → ClassId} {b L : Nat} {xs : Nat → Int32} {Ax Am : Nat → Nat} {Rel : Nat → St → St → Prop} {mc ms : Nat} (hL : L ≤ 3072) (hAx : AdOK 58 Ax) (hAm : AdOK 37 Am) (yl : YL E l D) (g : YG E cy cL_law RL 4 room_1) (yx : YX E b L xs) (ok : OKS Rel) (hmc : mc ≤ 600000) (hms : ms ≤ 7302250) {k : Nat} {σ μ : St} (hk : k < 512) (hR : Rel k σ μ) (hg : 6 * k + 6 ≤ L) (ih : ∀ σ μ, Rel (k + 1) σ μ → XA E (wX cy Ax σ ++ wM cy Am μ) mc ms 18 [(0, .ref b), (1, .ref (Ax 0)), (2, .ref (Am 0)), (3, .int (nI (6 * (k + 1))))] []) : XA E (wX cy Ax σ ++ wM cy Am μ) mc ms 942 [(0, .ref b), (1, .ref (Ax 0)), (2, .ref (Am 0)), (3, .int (nI (6 * k)))] [] := by
  refine y_aload_n g 1 dL_law_942 rfl rfl ?_
  obtain ⟨μ2, r, hx1, hm1, hR2⟩ := ok.2.2.2.2.2.2.2.2.2.2.2.2.2.2.2.2.2.2.2.2.2.2.2.2.2.2.1 k σ μ hk hR 
  refine z_callX g yl [] [] [.long r] (c_X11_digest hAx hx1) mf_X11_digest im_X11_digest se_X11_digest ml_L_124 (Nat.le_of_ble_eq_true rfl) (Nat.le_of_ble_eq_true rfl) hmc hms rfl (Nat.le_of_ble_eq_true rfl) dL_law_943 rfl rfl ?_
  refine y_aload_n g 2 dL_law_946 rfl rfl ?_
  refine z_callM g yl [] [.long r] [.long r, .long r] (c_X12_digest hAm hm1) mf_X12_digest im_X12_digest se_X12_digest ml_L_128 (Nat.le_of_ble_eq_true rfl) (Nat.le_of_ble_eq_true rfl) hmc hms rfl (Nat.le_of_ble_eq_true rfl) dL_law_947 rfl rfl ?_
  refine y_lcmp g dL_law_950 ?_
  refine y_if_eq_t g 956 dL_law_951 (by decide) (by simp [lg_cmp]) ?_
  refine y_iinc g 3 (nI (6 * (k + 1))) (lv' := [(3, .int (nI (6 * (k + 1)))), (0, .ref b), (1, .ref (Ax 0)), (2, .ref (Am 0))]) dL_law_956 rfl (by rw [show Int32.ofInt 6 = Int32.ofNat 6 from by decide]; simp only [nI]; rw [← Int32.ofNat_add, Nat.mul_succ]) (by decide) rfl ?_
  refine y_goto g 18 dL_law_959 (by decide) ?_
  exact y_sub [1, 2, 3, 0] rfl (ih _ _ hR2)
set_option maxHeartbeats 4000000 in
set_option maxRecDepth 100000 in
theorem lw_loop {E : EV} {l : Launch} {D : va_G} {cy : Nat → ClassId} {b L : Nat} {xs : Nat → Int32} {Ax Am : Nat → Nat} {Rel : Nat → St → St → Prop} {mc ms : Nat} (hL : L ≤ 3072) (hAx : AdOK 58 Ax) (hAm : AdOK 37 Am) (yl : YL E l D) (g : YG E cy cL_law RL 4 room_1) (yx : YX E b L xs) (ok : OKS Rel) (hmc : mc ≤ 600000) (hms : ms ≤ 7302250) (yz : YZ E b) : ∀ (n k : Nat) (σ μ : St), k + n = 513 → k ≤ 512 → Rel k σ μ → XA E (wX cy Ax σ ++ wM cy Am μ) mc ms 18 [(0, .ref b), (1, .ref (Ax 0)), (2, .ref (Am 0)), (3, .int (nI (6 * k)))] [] := by
  intro n
  induction n with
  | zero => intro k σ μ h1 h2; omega
  | succ n ih =>
    intro k σ μ hn hk hR
    refine y_iload_n g 3 dL_law_18 rfl rfl ?_
    refine y_aload_n g 0 dL_law_19 rfl rfl ?_
    refine y_slen g yx dL_law_20 ?_
    refine y_bipush g 6 dL_law_21 (by decide) ?_
    refine y_isub g dL_law_23 ?_
    refine y_icmp_gt g 962 dL_law_24 (by decide) (fun _ => ?_) (fun hc => ?_)
    · refine y_iconst g 1 dL_law_962 (by decide) ?_
      exact y_lret g yz hmc hms dL_law_963
    have hg := lw_go hL hk hc
    have hk2 : k < 512 := by omega
    have ih2 : ∀ σ μ, Rel (k + 1) σ μ → _ := fun σ μ h => ih (k + 1) σ μ (by omega) (by omega) h
    refine y_aload_n g 0 dL_law_27 rfl rfl ?_
    refine y_iload_n g 3 dL_law_28 rfl rfl ?_
    refine y_sld g yx (by have h0 := lw_idx (j := 0) hg hL (by decide); rwa [show nI 0 = 0 from rfl, Int32.add_zero] at h0) dL_law_29 ?_
    refine y_bipush g 31 dL_law_30 (by decide) ?_
    refine y_iand g dL_law_32 ?_
    by_cases n_0 : (xs (Int32.toNatClampNeg (nI (6 * k))) &&& 31) = 0
    · refine y_tin g 0 123 156 dL_law_33 n_0 (by decide) ?_
      exact lw_letter hL hAx hAm yl g yx ok hmc hms hk2 hR hg ih2
    by_cases n_1 : (xs (Int32.toNatClampNeg (nI (6 * k))) &&& 31) = 1
    · refine y_tin g 1 146 179 dL_law_33 n_1 (by decide) ?_
      exact lw_blank hL hAx hAm yl g yx ok hmc hms hk2 hR hg ih2
    by_cases n_2 : (xs (Int32.toNatClampNeg (nI (6 * k))) &&& 31) = 2
    · refine y_tin g 2 159 192 dL_law_33 n_2 (by decide) ?_
      exact lw_fault hL hAx hAm yl g yx ok hmc hms hk2 hR hg ih2
    by_cases n_3 : (xs (Int32.toNatClampNeg (nI (6 * k))) &&& 31) = 3
    · refine y_tin g 3 172 205 dL_law_33 n_3 (by decide) ?_
      exact lw_chip hL hAx hAm yl g yx ok hmc hms hk2 hR hg ih2
    by_cases n_4 : (xs (Int32.toNatClampNeg (nI (6 * k))) &&& 31) = 4
    · refine y_tin g 4 185 218 dL_law_33 n_4 (by decide) ?_
      exact lw_about hL hAx hAm yl g yx ok hmc hms hk2 hR hg ih2
    by_cases n_5 : (xs (Int32.toNatClampNeg (nI (6 * k))) &&& 31) = 5
    · refine y_tin g 5 208 241 dL_law_33 n_5 (by decide) ?_
      exact lw_link hL hAx hAm yl g yx ok hmc hms hk2 hR hg ih2
    by_cases n_6 : (xs (Int32.toNatClampNeg (nI (6 * k))) &&& 31) = 6
    · refine y_tin g 6 241 274 dL_law_33 n_6 (by decide) ?_
      exact lw_slot hL hAx hAm yl g yx ok hmc hms hk2 hR hg ih2
    by_cases n_7 : (xs (Int32.toNatClampNeg (nI (6 * k))) &&& 31) = 7
    · refine y_tin g 7 274 307 dL_law_33 n_7 (by decide) ?_
      exact lw_cut hL hAx hAm yl g yx ok hmc hms hk2 hR hg ih2
    by_cases n_8 : (xs (Int32.toNatClampNeg (nI (6 * k))) &&& 31) = 8
    · refine y_tin g 8 323 356 dL_law_33 n_8 (by decide) ?_
      exact lw_open hL hAx hAm yl g yx ok hmc hms hk2 hR hg ih2
    by_cases n_9 : (xs (Int32.toNatClampNeg (nI (6 * k))) &&& 31) = 9
    · refine y_tin g 9 386 419 dL_law_33 n_9 (by decide) ?_
      exact lw_as hL hAx hAm yl g yx ok hmc hms hk2 hR hg ih2
    by_cases n_10 : (xs (Int32.toNatClampNeg (nI (6 * k))) &&& 31) = 10
    · refine y_tin g 10 419 452 dL_law_33 n_10 (by decide) ?_
      exact lw_circuit hL hAx hAm yl g yx ok hmc hms hk2 hR hg ih2
    by_cases n_11 : (xs (Int32.toNatClampNeg (nI (6 * k))) &&& 31) = 11
    · refine y_tin g 11 452 485 dL_law_33 n_11 (by decide) ?_
      exact lw_route hL hAx hAm yl g yx ok hmc hms hk2 hR hg ih2
    by_cases n_12 : (xs (Int32.toNatClampNeg (nI (6 * k))) &&& 31) = 12
    · refine y_tin g 12 485 518 dL_law_33 n_12 (by decide) ?_
      exact lw_start hL hAx hAm yl g yx ok hmc hms hk2 hR hg ih2
    by_cases n_13 : (xs (Int32.toNatClampNeg (nI (6 * k))) &&& 31) = 13
    · refine y_tin g 13 518 551 dL_law_33 n_13 (by decide) ?_
      exact lw_pair hL hAx hAm yl g yx ok hmc hms hk2 hR hg ih2
    by_cases n_14 : (xs (Int32.toNatClampNeg (nI (6 * k))) &&& 31) = 14
    · refine y_tin g 14 551 584 dL_law_33 n_14 (by decide) ?_
      exact lw_move hL hAx hAm yl g yx ok hmc hms hk2 hR hg ih2
    by_cases n_15 : (xs (Int32.toNatClampNeg (nI (6 * k))) &&& 31) = 15
    · refine y_tin g 15 574 607 dL_law_33 n_15 (by decide) ?_
      exact lw_close hL hAx hAm yl g yx ok hmc hms hk2 hR hg ih2
    by_cases n_16 : (xs (Int32.toNatClampNeg (nI (6 * k))) &&& 31) = 16
    · refine y_tin g 16 597 630 dL_law_33 n_16 (by decide) ?_
      exact lw_feed hL hAx hAm yl g yx ok hmc hms hk2 hR hg ih2
    by_cases n_17 : (xs (Int32.toNatClampNeg (nI (6 * k))) &&& 31) = 17
    · refine y_tin g 17 630 663 dL_law_33 n_17 (by decide) ?_
      exact lw_take hL hAx hAm yl g yx ok hmc hms hk2 hR hg ih2
    by_cases n_18 : (xs (Int32.toNatClampNeg (nI (6 * k))) &&& 31) = 18
    · refine y_tin g 18 663 696 dL_law_33 n_18 (by decide) ?_
      exact lw_fastest hL hAx hAm yl g yx ok hmc hms hk2 hR hg ih2
    by_cases n_19 : (xs (Int32.toNatClampNeg (nI (6 * k))) &&& 31) = 19
    · refine y_tin g 19 676 709 dL_law_33 n_19 (by decide) ?_
      exact lw_stray hL hAx hAm yl g yx ok hmc hms hk2 hR hg ih2
    by_cases n_20 : (xs (Int32.toNatClampNeg (nI (6 * k))) &&& 31) = 20
    · refine y_tin g 20 735 768 dL_law_33 n_20 (by decide) ?_
      exact lw_straying hL hAx hAm yl g yx ok hmc hms hk2 hR hg ih2
    by_cases n_21 : (xs (Int32.toNatClampNeg (nI (6 * k))) &&& 31) = 21
    · refine y_tin g 21 768 801 dL_law_33 n_21 (by decide) ?_
      exact lw_arrived hL hAx hAm yl g yx ok hmc hms hk2 hR hg ih2
    by_cases n_22 : (xs (Int32.toNatClampNeg (nI (6 * k))) &&& 31) = 22
    · refine y_tin g 22 817 850 dL_law_33 n_22 (by decide) ?_
      exact lw_faster hL hAx hAm yl g yx ok hmc hms hk2 hR hg ih2
    by_cases n_23 : (xs (Int32.toNatClampNeg (nI (6 * k))) &&& 31) = 23
    · refine y_tin g 23 830 863 dL_law_33 n_23 (by decide) ?_
      exact lw_run hL hAx hAm yl g yx ok hmc hms hk2 hR hg ih2
    by_cases n_24 : (xs (Int32.toNatClampNeg (nI (6 * k))) &&& 31) = 24
    · refine y_tin g 24 853 886 dL_law_33 n_24 (by decide) ?_
      exact lw_storm hL hAx hAm yl g yx ok hmc hms hk2 hR hg ih2
    by_cases n_25 : (xs (Int32.toNatClampNeg (nI (6 * k))) &&& 31) = 25
    · refine y_tin g 25 886 919 dL_law_33 n_25 (by decide) ?_
      exact lw_count hL hAx hAm yl g yx ok hmc hms hk2 hR hg ih2
    by_cases n_26 : (xs (Int32.toNatClampNeg (nI (6 * k))) &&& 31) = 26
    · refine y_tin g 26 909 942 dL_law_33 n_26 (by decide) ?_
      exact lw_digest hL hAx hAm yl g yx ok hmc hms hk2 hR hg ih2
    refine y_tout g 956 dL_law_33 (by have e0 := tI n_0 (by decide : (0 : Int32).toInt = 0); have e1 := tI n_1 (by decide : (1 : Int32).toInt = 1); have e2 := tI n_2 (by decide : (2 : Int32).toInt = 2); have e3 := tI n_3 (by decide : (3 : Int32).toInt = 3); have e4 := tI n_4 (by decide : (4 : Int32).toInt = 4); have e5 := tI n_5 (by decide : (5 : Int32).toInt = 5); have e6 := tI n_6 (by decide : (6 : Int32).toInt = 6); have e7 := tI n_7 (by decide : (7 : Int32).toInt = 7); have e8 := tI n_8 (by decide : (8 : Int32).toInt = 8); have e9 := tI n_9 (by decide : (9 : Int32).toInt = 9); have e10 := tI n_10 (by decide : (10 : Int32).toInt = 10); have e11 := tI n_11 (by decide : (11 : Int32).toInt = 11); have e12 := tI n_12 (by decide : (12 : Int32).toInt = 12); have e13 := tI n_13 (by decide : (13 : Int32).toInt = 13); have e14 := tI n_14 (by decide : (14 : Int32).toInt = 14); have e15 := tI n_15 (by decide : (15 : Int32).toInt = 15); have e16 := tI n_16 (by decide : (16 : Int32).toInt = 16); have e17 := tI n_17 (by decide : (17 : Int32).toInt = 17); have e18 := tI n_18 (by decide : (18 : Int32).toInt = 18); have e19 := tI n_19 (by decide : (19 : Int32).toInt = 19); have e20 := tI n_20 (by decide : (20 : Int32).toInt = 20); have e21 := tI n_21 (by decide : (21 : Int32).toInt = 21); have e22 := tI n_22 (by decide : (22 : Int32).toInt = 22); have e23 := tI n_23 (by decide : (23 : Int32).toInt = 23); have e24 := tI n_24 (by decide : (24 : Int32).toInt = 24); have e25 := tI n_25 (by decide : (25 : Int32).toInt = 25); have e26 := tI n_26 (by decide : (26 : Int32).toInt = 26); omega) (by decide) ?_
    have hR2 := ok.2.2.2.2.2.2.2.2.2.2.2.2.2.2.2.2.2.2.2.2.2.2.2.2.2.2.2 k σ μ hk2 hR
    have ih := ih2
    refine y_iinc g 3 (nI (6 * (k + 1))) (lv' := [(3, .int (nI (6 * (k + 1)))), (0, .ref b), (1, .ref (Ax 0)), (2, .ref (Am 0))]) dL_law_956 rfl (by rw [show Int32.ofInt 6 = Int32.ofNat 6 from by decide]; simp only [nI]; rw [← Int32.ofNat_add, Nat.mul_succ]) (by decide) rfl ?_
    refine y_goto g 18 dL_law_959 (by decide) ?_
    exact y_sub [1, 2, 3, 0] rfl (ih _ _ hR2)
