/-! SlotChip.isLinkNumber(I)Z -/
def f_X11_isLinkNumber (p1 : Int32) : Option Int32 :=
  if 0 ≤ p1 then
    (if p1 < 54 then
      some 1
    else
      some 0)
  else
    some 0
set_option maxHeartbeats 4000000 in
set_option maxRecDepth 100000 in
theorem c_X11_isLinkNumber {l : Launch} {D : va_G} {cy : Nat → ClassId} {Ad : Nat → Nat} (hA : AdOK 58 Ad) {σ : St} {p1 : Int32} {o : Int32} (hf : f_X11_isLinkNumber p1 = some o) : CT l (wX cy Ad) D cy (AdA 58 Ad) yX11_isLinkNumber cX11_isLinkNumber 1 (some .boolean) 0 [.int p1] σ (σ, (some (.int o))) := by
  refine CT.of mf_X11_isLinkNumber (wX_D hA) (Nat.le_of_ble_eq_true rfl) ?_
  intro E xl g
  have ho : ((σ, (some (.int o))) : St × Option Value) = (σ, (some (.int o))) := rfl
  unfold f_X11_isLinkNumber at hf
  show XJ E (wX cy Ad σ) 0 [(0, .int p1)] []
  refine x_iload_n g 0 dX11_isLinkNumber_0 rfl rfl ?_
  refine x_if_lt g 14 dX11_isLinkNumber_1 (by decide) hf (fun c1 hf => ?_) (fun c1 hf => ?_)
  · refine x_iload_n g 0 dX11_isLinkNumber_4 rfl rfl ?_
    refine x_bipush g 54 dX11_isLinkNumber_5 (by decide) ?_
    refine x_icmp_ge g 14 dX11_isLinkNumber_7 (by decide) hf (fun c7 hf => ?_) (fun c7 hf => ?_)
    · refine x_iconst g 1 dX11_isLinkNumber_10 (by decide) ?_
      refine x_goto g 15 dX11_isLinkNumber_11 (by decide) ?_
      cases hf
      exact x_zret g rfl (by decide) ho dX11_isLinkNumber_15
    · refine x_iconst g 0 dX11_isLinkNumber_14 (by decide) ?_
      cases hf
      exact x_zret g rfl (by decide) ho dX11_isLinkNumber_15
  · refine x_iconst g 0 dX11_isLinkNumber_14 (by decide) ?_
    cases hf
    exact x_zret g rfl (by decide) ho dX11_isLinkNumber_15
/-! SlotChip$Grid.routers()I -/
def f_X4_routers (σ : St) (i : Nat) : Option Int32 :=
  some ((σ.1 4 i 0) * (σ.1 4 i 1))
set_option maxHeartbeats 4000000 in
set_option maxRecDepth 100000 in
theorem c_X4_routers {l : Launch} {D : va_G} {cy : Nat → ClassId} {Ad : Nat → Nat} (hA : AdOK 58 Ad) {σ : St} {i : Nat} (h_i : i < 2) {o : Int32} (hf : f_X4_routers σ i = some o) : CT l (wX cy Ad) D cy (AdA 58 Ad) yX4_routers cX4_routers 1 (some .int) 0 [.ref (Ad (3 + 4 * i))] σ (σ, (some (.int o))) := by
  refine CT.of mf_X4_routers (wX_D hA) (Nat.le_of_ble_eq_true rfl) ?_
  intro E xl g
  have ho : ((σ, (some (.int o))) : St × Option Value) = (σ, (some (.int o))) := rfl
  unfold f_X4_routers at hf
  show XJ E (wX cy Ad σ) 0 [(0, .ref (Ad (3 + 4 * i)))] []
  refine x_aload_n g 0 dX4_routers_0 rfl rfl ?_
  refine x_get g fl_X4_15 (wx_G h_i) rfl dX4_routers_1 ?_
  refine x_aload_n g 0 dX4_routers_4 rfl rfl ?_
  refine x_get g fl_X4_19 (wx_G h_i) rfl dX4_routers_5 ?_
  refine x_imul g dX4_routers_8 ?_
  cases hf
  exact x_iret g rfl ho dX4_routers_9
/-! SlotChip$Grid.hasRouter(I)Z -/
def f_X4_hasRouter (σ : St) (i : Nat) (p1 : Int32) : Option Int32 :=
  if 0 ≤ p1 then
    ((f_X4_routers σ i).bind fun r1 =>
    if p1 < r1 then
      (if p1 < 9 then
        some 1
      else
        some 0)
    else
      some 0)
  else
    some 0
set_option maxHeartbeats 4000000 in
set_option maxRecDepth 100000 in
theorem c_X4_hasRouter {l : Launch} {D : va_G} {cy : Nat → ClassId} {Ad : Nat → Nat} (hA : AdOK 58 Ad) {σ : St} {i : Nat} {p1 : Int32} (h_i : i < 2) {o : Int32} (hf : f_X4_hasRouter σ i p1 = some o) : CT l (wX cy Ad) D cy (AdA 58 Ad) yX4_hasRouter cX4_hasRouter 2 (some .boolean) 1 [.ref (Ad (3 + 4 * i)), .int p1] σ (σ, (some (.int o))) := by
  refine CT.of mf_X4_hasRouter (wX_D hA) (Nat.le_of_ble_eq_true rfl) ?_
  intro E xl g
  have ho : ((σ, (some (.int o))) : St × Option Value) = (σ, (some (.int o))) := rfl
  unfold f_X4_hasRouter at hf
  show XJ E (wX cy Ad σ) 0 [(0, .ref (Ad (3 + 4 * i))), (1, .int p1)] []
  refine x_iload_n g 1 dX4_hasRouter_0 rfl rfl ?_
  refine x_if_lt g 22 dX4_hasRouter_1 (by decide) hf (fun c1 hf => ?_) (fun c1 hf => ?_)
  · refine x_iload_n g 1 dX4_hasRouter_4 rfl rfl ?_
    refine x_aload_n g 0 dX4_hasRouter_5 rfl rfl ?_
    obtain ⟨r1, hgr1, hf⟩ := obind hf
    refine x_callV (r := (RX4, TX4, 3)) g xl [] [.int p1] [.int r1, .int p1] (c_X4_routers hA h_i hgr1) mf_X4_routers im_X4_routers se_X4_routers ml_X4_30 rfl (wx_G h_i) (by decide) (by decide) rfl (Nat.le_of_ble_eq_true rfl) dX4_hasRouter_6 rfl rfl ?_
    refine x_icmp_ge g 22 dX4_hasRouter_9 (by decide) hf (fun c9 hf => ?_) (fun c9 hf => ?_)
    · refine x_iload_n g 1 dX4_hasRouter_12 rfl rfl ?_
      refine x_bipush g 9 dX4_hasRouter_13 (by decide) ?_
      refine x_icmp_ge g 22 dX4_hasRouter_15 (by decide) hf (fun c15 hf => ?_) (fun c15 hf => ?_)
      · refine x_iconst g 1 dX4_hasRouter_18 (by decide) ?_
        refine x_goto g 23 dX4_hasRouter_19 (by decide) ?_
        cases hf
        exact x_zret g rfl (by decide) ho dX4_hasRouter_23
      · refine x_iconst g 0 dX4_hasRouter_22 (by decide) ?_
        cases hf
        exact x_zret g rfl (by decide) ho dX4_hasRouter_23
    · refine x_iconst g 0 dX4_hasRouter_22 (by decide) ?_
      cases hf
      exact x_zret g rfl (by decide) ho dX4_hasRouter_23
  · refine x_iconst g 0 dX4_hasRouter_22 (by decide) ?_
    cases hf
    exact x_zret g rfl (by decide) ho dX4_hasRouter_23
/-! SlotChip$Grid.hasLink(I)Z -/
def f_X4_hasLink (σ : St) (i : Nat) (p1 : Int32) : Option Int32 :=
  (f_X11_isLinkNumber p1).bind fun r1 =>
  if r1 = 0 then
    some 0
  else
    (chk (inb p1 54) (
      if (σ.1 11 i (Int32.toNatClampNeg p1)) = (-2) then
        some 0
      else
        some 1))
set_option maxHeartbeats 4000000 in
set_option maxRecDepth 100000 in
theorem c_X4_hasLink {l : Launch} {D : va_G} {cy : Nat → ClassId} {Ad : Nat → Nat} (hA : AdOK 58 Ad) {σ : St} {i : Nat} {p1 : Int32} (h_i : i < 2) {o : Int32} (hf : f_X4_hasLink σ i p1 = some o) : CT l (wX cy Ad) D cy (AdA 58 Ad) yX4_hasLink cX4_hasLink 2 (some .boolean) 1 [.ref (Ad (3 + 4 * i)), .int p1] σ (σ, (some (.int o))) := by
  refine CT.of mf_X4_hasLink (wX_D hA) (Nat.le_of_ble_eq_true rfl) ?_
  intro E xl g
  have ho : ((σ, (some (.int o))) : St × Option Value) = (σ, (some (.int o))) := rfl
  unfold f_X4_hasLink at hf
  show XJ E (wX cy Ad σ) 0 [(0, .ref (Ad (3 + 4 * i))), (1, .int p1)] []
  refine x_iload_n g 1 dX4_hasLink_0 rfl rfl ?_
  obtain ⟨r1, hgr1, hf⟩ := obind hf
  refine x_callN g xl [.int p1] [] [.int r1] (c_X11_isLinkNumber hA hgr1) mf_X11_isLinkNumber sm_X11_isLinkNumber nl_X4_34 (by decide) (by decide) rfl (Nat.le_of_ble_eq_true rfl) dX4_hasLink_1 rfl rfl ?_
  refine x_if_eq g 22 dX4_hasLink_4 (by decide) hf (fun c4 hf => ?_) (fun c4 hf => ?_)
  · refine x_iconst g 0 dX4_hasLink_22 (by decide) ?_
    cases hf
    exact x_zret g rfl (by decide) ho dX4_hasLink_23
  · refine x_aload_n g 0 dX4_hasLink_7 rfl rfl ?_
    refine x_get g fl_X4_9 (wx_G h_i) rfl dX4_hasLink_8 ?_
    refine x_iload_n g 1 dX4_hasLink_11 rfl rfl ?_
    refine x_iald g (wx_Ge h_i) dX4_hasLink_12 hf (fun hf => ?_)
    refine x_bipush g (-2) dX4_hasLink_13 (by decide) ?_
    refine x_icmp_eq g 22 dX4_hasLink_15 (by decide) hf (fun c15 hf => ?_) (fun c15 hf => ?_)
    · refine x_iconst g 0 dX4_hasLink_22 (by decide) ?_
      cases hf
      exact x_zret g rfl (by decide) ho dX4_hasLink_23
    · refine x_iconst g 1 dX4_hasLink_18 (by decide) ?_
      refine x_goto g 23 dX4_hasLink_19 (by decide) ?_
      cases hf
      exact x_zret g rfl (by decide) ho dX4_hasLink_23
/-! SlotChip$Board.isThere()Z -/
def f_X1_isThere (σ : St) : Option Int32 :=
  if 0 < (σ.1 1 0 1) then
    some 1
  else
    some 0
set_option maxHeartbeats 4000000 in
set_option maxRecDepth 100000 in
theorem c_X1_isThere {l : Launch} {D : va_G} {cy : Nat → ClassId} {Ad : Nat → Nat} (hA : AdOK 58 Ad) {σ : St} {o : Int32} (hf : f_X1_isThere σ = some o) : CT l (wX cy Ad) D cy (AdA 58 Ad) yX1_isThere cX1_isThere 1 (some .boolean) 0 [.ref (Ad 6)] σ (σ, (some (.int o))) := by
  refine CT.of mf_X1_isThere (wX_D hA) (Nat.le_of_ble_eq_true rfl) ?_
  intro E xl g
  have ho : ((σ, (some (.int o))) : St × Option Value) = (σ, (some (.int o))) := rfl
  unfold f_X1_isThere at hf
  show XJ E (wX cy Ad σ) 0 [(0, .ref (Ad 6))] []
  refine x_aload_n g 0 dX1_isThere_0 rfl rfl ?_
  refine x_get g fl_X1_45 wx_6 rfl dX1_isThere_1 ?_
  refine x_if_le g 11 dX1_isThere_4 (by decide) hf (fun c4 hf => ?_) (fun c4 hf => ?_)
  · refine x_iconst g 1 dX1_isThere_7 (by decide) ?_
    refine x_goto g 12 dX1_isThere_8 (by decide) ?_
    cases hf
    exact x_zret g rfl (by decide) ho dX1_isThere_12
  · refine x_iconst g 0 dX1_isThere_11 (by decide) ?_
    cases hf
    exact x_zret g rfl (by decide) ho dX1_isThere_12
/-! SlotChip$Board.ownerOf(II)I -/
def f_X1_ownerOf (σ : St) (p1 : Int32) (p2 : Int32) : Option Int32 :=
  (f_X11_isLinkNumber p1).bind fun r1 =>
  if r1 = 0 then
    some (-1)
  else
    (if 0 ≤ p2 then
      (if 10 ≤ p2 then
        some (-1)
      else
        (chk (inb ((10 * p1) + p2) 540) (
          some (σ.1 16 0 (Int32.toNatClampNeg ((10 * p1) + p2))))))
    else
      some (-1))
set_option maxHeartbeats 4000000 in
set_option maxRecDepth 100000 in
theorem c_X1_ownerOf {l : Launch} {D : va_G} {cy : Nat → ClassId} {Ad : Nat → Nat} (hA : AdOK 58 Ad) {σ : St} {p1 : Int32} {p2 : Int32} {o : Int32} (hf : f_X1_ownerOf σ p1 p2 = some o) : CT l (wX cy Ad) D cy (AdA 58 Ad) yX1_ownerOf cX1_ownerOf 3 (some .int) 1 [.ref (Ad 6), .int p1, .int p2] σ (σ, (some (.int o))) := by
  refine CT.of mf_X1_ownerOf (wX_D hA) (Nat.le_of_ble_eq_true rfl) ?_
  intro E xl g
  have ho : ((σ, (some (.int o))) : St × Option Value) = (σ, (some (.int o))) := rfl
  unfold f_X1_ownerOf at hf
  show XJ E (wX cy Ad σ) 0 [(0, .ref (Ad 6)), (1, .int p1), (2, .int p2)] []
  refine x_iload_n g 1 dX1_ownerOf_0 rfl rfl ?_
  obtain ⟨r1, hgr1, hf⟩ := obind hf
  refine x_callN g xl [.int p1] [] [.int r1] (c_X11_isLinkNumber hA hgr1) mf_X11_isLinkNumber sm_X11_isLinkNumber nl_X1_59 (by decide) (by decide) rfl (Nat.le_of_ble_eq_true rfl) dX1_ownerOf_1 rfl rfl ?_
  refine x_if_eq g 17 dX1_ownerOf_4 (by decide) hf (fun c4 hf => ?_) (fun c4 hf => ?_)
  · refine x_iconst g (-1) dX1_ownerOf_17 (by decide) ?_
    cases hf
    exact x_iret g rfl ho dX1_ownerOf_18
  · refine x_iload_n g 2 dX1_ownerOf_7 rfl rfl ?_
    refine x_if_lt g 17 dX1_ownerOf_8 (by decide) hf (fun c8 hf => ?_) (fun c8 hf => ?_)
    · refine x_iload_n g 2 dX1_ownerOf_11 rfl rfl ?_
      refine x_bipush g 10 dX1_ownerOf_12 (by decide) ?_
      refine x_icmp_lt g 19 dX1_ownerOf_14 (by decide) hf (fun c14 hf => ?_) (fun c14 hf => ?_)
      · refine x_iconst g (-1) dX1_ownerOf_17 (by decide) ?_
        cases hf
        exact x_iret g rfl ho dX1_ownerOf_18
      · refine x_aload_n g 0 dX1_ownerOf_19 rfl rfl ?_
        refine x_get g fl_X1_26 wx_6 rfl dX1_ownerOf_20 ?_
        refine x_bipush g 10 dX1_ownerOf_23 (by decide) ?_
        refine x_iload_n g 1 dX1_ownerOf_25 rfl rfl ?_
        refine x_imul g dX1_ownerOf_26 ?_
        refine x_iload_n g 2 dX1_ownerOf_27 rfl rfl ?_
        refine x_iadd g dX1_ownerOf_28 ?_
        refine x_iald g wx_11 dX1_ownerOf_29 hf (fun hf => ?_)
        cases hf
        exact x_iret g rfl ho dX1_ownerOf_30
    · refine x_iconst g (-1) dX1_ownerOf_17 (by decide) ?_
      cases hf
      exact x_iret g rfl ho dX1_ownerOf_18
/-! SlotChip$Board.slotsHad(I)I -/
def f_X1_slotsHad_L4b (σ : St) (v1 : Int32) (K4 : Int32 → Int32 → Option Int32) (v2 : Int32) (v3 : Int32) : Option Int32 :=
  if v3 < (σ.1 1 0 1) then
    ((f_X1_ownerOf σ v1 v3).bind fun r1 =>
    if r1 = (-1) then
      K4 v2 (v3 + 1)
    else
      K4 (v2 + 1) (v3 + 1))
  else
    some v2
def f_X1_slotsHad_L4 (σ : St) (v1 : Int32) : Nat → Int32 → Int32 → Option Int32
  | 0 => fun _ _ => none
  | n + 1 => f_X1_slotsHad_L4b σ v1 (f_X1_slotsHad_L4 σ v1 n)
def f_X1_slotsHad (σ : St) (p1 : Int32) : Option Int32 :=
  f_X1_slotsHad_L4 σ p1 FU 0 0
set_option maxHeartbeats 4000000 in
set_option maxRecDepth 100000 in
theorem l_X1_slotsHad_L4 {E : EV} {l : Launch} {D : va_G} {cy : Nat → ClassId} {Ad : Nat → Nat} {out : St × Option Value} {o : Int32} (hA : AdOK 58 Ad) (xl : XL E l D (AdA 58 Ad)) (g : XG E (wX cy Ad) cy cX1_slotsHad RX1 4 2 (some .int) out) (σ : St) (v1 : Int32) (ho : out = (σ, (some (.int o)))) : ∀ (n : Nat) (v2 : Int32) (v3 : Int32), f_X1_slotsHad_L4 σ v1 n v2 v3 = some o → XJ E (wX cy Ad σ) 4 [(0, .ref (Ad 6)), (1, .int v1), (2, .int v2), (3, .int v3)] [] := by
  intro n
  induction n with
  | zero => intro _ _ hf; cases hf
  | succ n ih4 =>
    intro v2 v3 hf
    replace hf : f_X1_slotsHad_L4b σ v1 (f_X1_slotsHad_L4 σ v1 n) v2 v3 = some o := hf
    unfold f_X1_slotsHad_L4b at hf
    refine x_iload_n g 3 dX1_slotsHad_4 rfl rfl ?_
    refine x_aload_n g 0 dX1_slotsHad_5 rfl rfl ?_
    refine x_get g fl_X1_45 wx_6 rfl dX1_slotsHad_6 ?_
    refine x_icmp_ge g 31 dX1_slotsHad_9 (by decide) hf (fun c9 hf => ?_) (fun c9 hf => ?_)
    · refine x_aload_n g 0 dX1_slotsHad_12 rfl rfl ?_
      refine x_iload_n g 1 dX1_slotsHad_13 rfl rfl ?_
      refine x_iload_n g 3 dX1_slotsHad_14 rfl rfl ?_
      obtain ⟨r1, hgr1, hf⟩ := obind hf
      refine x_callV (r := (RX1, TX1, 6)) g xl [.int v1, .int v3] [] [.int r1] (c_X1_ownerOf hA hgr1) mf_X1_ownerOf im_X1_ownerOf se_X1_ownerOf ml_X1_82 rfl wx_6 (by decide) (by decide) rfl (Nat.le_of_ble_eq_true rfl) dX1_slotsHad_15 rfl rfl ?_
      refine x_iconst g (-1) dX1_slotsHad_18 (by decide) ?_
      refine x_icmp_eq g 25 dX1_slotsHad_19 (by decide) hf (fun c19 hf => ?_) (fun c19 hf => ?_)
      · refine x_iinc g 3 (v3 + 1) (lv' := [(3, .int (v3 + 1)), (0, .ref (Ad 6)), (1, .int v1), (2, .int v2)]) dX1_slotsHad_25 rfl (by rfl) (by decide) rfl ?_
        refine x_goto g 4 dX1_slotsHad_28 (by decide) ?_
        exact x_sub [1, 2, 3, 0] rfl (ih4 _ _ hf)
      · refine x_iinc g 2 (v2 + 1) (lv' := [(2, .int (v2 + 1)), (0, .ref (Ad 6)), (1, .int v1), (3, .int v3)]) dX1_slotsHad_22 rfl (by rfl) (by decide) rfl ?_
        refine x_iinc g 3 (v3 + 1) (lv' := [(3, .int (v3 + 1)), (2, .int (v2 + 1)), (0, .ref (Ad 6)), (1, .int v1)]) dX1_slotsHad_25 rfl (by rfl) (by decide) rfl ?_
        refine x_goto g 4 dX1_slotsHad_28 (by decide) ?_
        exact x_sub [2, 3, 1, 0] rfl (ih4 _ _ hf)
    · refine x_iload_n g 2 dX1_slotsHad_31 rfl rfl ?_
      cases hf
      exact x_iret g rfl ho dX1_slotsHad_32
set_option maxHeartbeats 4000000 in
set_option maxRecDepth 100000 in
theorem c_X1_slotsHad {l : Launch} {D : va_G} {cy : Nat → ClassId} {Ad : Nat → Nat} (hA : AdOK 58 Ad) {σ : St} {p1 : Int32} {o : Int32} (hf : f_X1_slotsHad σ p1 = some o) : CT l (wX cy Ad) D cy (AdA 58 Ad) yX1_slotsHad cX1_slotsHad 4 (some .int) 2 [.ref (Ad 6), .int p1] σ (σ, (some (.int o))) := by
  refine CT.of mf_X1_slotsHad (wX_D hA) (Nat.le_of_ble_eq_true rfl) ?_
  intro E xl g
  have ho : ((σ, (some (.int o))) : St × Option Value) = (σ, (some (.int o))) := rfl
  unfold f_X1_slotsHad at hf
  show XJ E (wX cy Ad σ) 0 [(0, .ref (Ad 6)), (1, .int p1)] []
  refine x_iconst g 0 dX1_slotsHad_0 (by decide) ?_
  refine x_istore_n (lv' := [(2, .int 0), (0, .ref (Ad 6)), (1, .int p1)]) g dX1_slotsHad_1 rfl (by decide) rfl ?_
  refine x_iconst g 0 dX1_slotsHad_2 (by decide) ?_
  refine x_istore_n (lv' := [(3, .int 0), (2, .int 0), (0, .ref (Ad 6)), (1, .int p1)]) g dX1_slotsHad_3 rfl (by decide) rfl ?_
  exact x_sub [2, 3, 1, 0] rfl (l_X1_slotsHad_L4 hA xl g _ _ ho FU _ _ hf)
