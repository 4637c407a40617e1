/-! SlotChip$Page.add(I)Z -/
def f_X5_add (σ : St) (p1 : Int32) : Option (St × Int32) :=
  if 0 ≤ (σ.1 5 0 0) then
    (if 30 ≤ (σ.1 5 0 0) then
      some (σ, 0)
    else
      (chk (inb (σ.1 5 0 0) 30) (
        bnd (si σ 12 0 (Int32.toNatClampNeg (σ.1 5 0 0)) p1) fun σ1 =>
        bnd (si σ1 5 0 0 ((σ1.1 5 0 0) + 1)) fun σ2 =>
        some (σ2, 1))))
  else
    some (σ, 0)
set_option maxHeartbeats 4000000 in
set_option maxRecDepth 100000 in
theorem c_X5_add {l : Launch} {D : va_G} {cy : Nat → ClassId} {Ad : Nat → Nat} (hA : AdOK 58 Ad) {σ : St} {p1 : Int32} {o : (St × Int32)} (hf : f_X5_add σ p1 = some o) : CT l (wX cy Ad) D cy (AdA 58 Ad) yX5_add cX5_add 2 (some .boolean) 0 [.ref (Ad 1), .int p1] σ (o.1, (some (.int o.2))) := by
  refine CT.of mf_X5_add (wX_D hA) (Nat.le_of_ble_eq_true rfl) ?_
  intro E xl g
  have ho : ((o.1, (some (.int o.2))) : St × Option Value) = (o.1, (some (.int o.2))) := rfl
  unfold f_X5_add at hf
  show XJ E (wX cy Ad σ) 0 [(0, .ref (Ad 1)), (1, .int p1)] []
  refine x_aload_n g 0 dX5_add_0 rfl rfl ?_
  refine x_get g fl_X5_26 wx_1 rfl dX5_add_1 ?_
  refine x_if_lt g 16 dX5_add_4 (by decide) hf (fun c4 hf => ?_) (fun c4 hf => ?_)
  · refine x_aload_n g 0 dX5_add_7 rfl rfl ?_
    refine x_get g fl_X5_26 wx_1 rfl dX5_add_8 ?_
    refine x_bipush g 30 dX5_add_11 (by decide) ?_
    refine x_icmp_lt g 18 dX5_add_13 (by decide) hf (fun c13 hf => ?_) (fun c13 hf => ?_)
    · refine x_iconst g 0 dX5_add_16 (by decide) ?_
      cases hf
      exact x_zret g rfl (by decide) ho dX5_add_17
    · refine x_aload_n g 0 dX5_add_18 rfl rfl ?_
      refine x_get g fl_X5_9 wx_1 rfl dX5_add_19 ?_
      refine x_aload_n g 0 dX5_add_22 rfl rfl ?_
      refine x_get g fl_X5_26 wx_1 rfl dX5_add_23 ?_
      refine x_iload_n g 1 dX5_add_26 rfl rfl ?_
      refine x_iastB g wx_2 (sx_2 _ _) dX5_add_27 hf (fun σ1 hf => ?_)
      refine x_aload_n g 0 dX5_add_28 rfl rfl ?_
      refine x_dup g dX5_add_29 rfl ?_
      refine x_get g fl_X5_26 wx_1 rfl dX5_add_30 ?_
      refine x_iconst g 1 dX5_add_33 (by decide) ?_
      refine x_iadd g dX5_add_34 ?_
      refine x_putB g tyX5 fl_X5_26 tyX5_ok nmX5 wx_1 rfl rfl rfl (Nat.le_of_ble_eq_true rfl) (sx_1_0 _) dX5_add_35 hf (fun σ2 hf => ?_)
      refine x_iconst g 1 dX5_add_38 (by decide) ?_
      cases hf
      exact x_zret g rfl (by decide) ho dX5_add_39
  · refine x_iconst g 0 dX5_add_16 (by decide) ?_
    cases hf
    exact x_zret g rfl (by decide) ho dX5_add_17
/-! SlotChip.letter(I)I -/
def f_X11_letter (σ : St) (p1 : Int32) : Option (St × Int32) :=
  if 32 ≤ p1 then
    (if 126 < p1 then
      some (σ, (-102))
    else
      ((f_X5_add σ p1).bind fun (σ2, r1) =>
      if r1 = 0 then
        some (σ2, (-104))
      else
        some (σ2, (σ2.1 5 0 0))))
  else
    some (σ, (-102))
set_option maxHeartbeats 4000000 in
set_option maxRecDepth 100000 in
theorem c_X11_letter {l : Launch} {D : va_G} {cy : Nat → ClassId} {Ad : Nat → Nat} (hA : AdOK 58 Ad) {σ : St} {p1 : Int32} {o : (St × Int32)} (hf : f_X11_letter σ p1 = some o) : CT l (wX cy Ad) D cy (AdA 58 Ad) yX11_letter cX11_letter 2 (some .int) 1 [.ref (Ad 0), .int p1] σ (o.1, (some (.int o.2))) := by
  refine CT.of mf_X11_letter (wX_D hA) (Nat.le_of_ble_eq_true rfl) ?_
  intro E xl g
  have ho : ((o.1, (some (.int o.2))) : St × Option Value) = (o.1, (some (.int o.2))) := rfl
  unfold f_X11_letter at hf
  show XJ E (wX cy Ad σ) 0 [(0, .ref (Ad 0)), (1, .int p1)] []
  refine x_iload_n g 1 dX11_letter_0 rfl rfl ?_
  refine x_bipush g 32 dX11_letter_1 (by decide) ?_
  refine x_icmp_lt g 12 dX11_letter_3 (by decide) hf (fun c3 hf => ?_) (fun c3 hf => ?_)
  · refine x_iload_n g 1 dX11_letter_6 rfl rfl ?_
    refine x_bipush g 126 dX11_letter_7 (by decide) ?_
    refine x_icmp_le g 15 dX11_letter_9 (by decide) hf (fun c9 hf => ?_) (fun c9 hf => ?_)
    · refine x_bipush g (-102) dX11_letter_12 (by decide) ?_
      cases hf
      exact x_iret g rfl ho dX11_letter_14
    · refine x_aload_n g 0 dX11_letter_15 rfl rfl ?_
      refine x_get g fl_X11_10 wx_0 rfl dX11_letter_16 ?_
      refine x_iload_n g 1 dX11_letter_19 rfl rfl ?_
      obtain ⟨⟨σ2, r1⟩, hgr1, hf⟩ := obind hf
      refine x_callV (r := (RX5, TX5, 9)) g xl [.int p1] [] [.int r1] (c_X5_add hA hgr1) mf_X5_add im_X5_add se_X5_add ml_X11_59 rfl wx_1 (by decide) (by decide) rfl (Nat.le_of_ble_eq_true rfl) dX11_letter_20 rfl rfl ?_
      refine x_if_eq g 36 dX11_letter_23 (by decide) hf (fun c23 hf => ?_) (fun c23 hf => ?_)
      · refine x_bipush g (-104) dX11_letter_36 (by decide) ?_
        cases hf
        exact x_iret g rfl ho dX11_letter_38
      · refine x_aload_n g 0 dX11_letter_26 rfl rfl ?_
        refine x_get g fl_X11_10 wx_0 rfl dX11_letter_27 ?_
        refine x_get g fl_X11_63 wx_1 rfl dX11_letter_30 ?_
        refine x_goto g 38 dX11_letter_33 (by decide) ?_
        cases hf
        exact x_iret g rfl ho dX11_letter_38
  · refine x_bipush g (-102) dX11_letter_12 (by decide) ?_
    cases hf
    exact x_iret g rfl ho dX11_letter_14
/-! SlotChip.blank()I -/
def f_X11_blank (σ : St) : Option (St × Int32) :=
  bnd (si σ 5 0 0 0) fun σ1 =>
  some (σ1, (σ.1 5 0 0))
set_option maxHeartbeats 4000000 in
set_option maxRecDepth 100000 in
theorem c_X11_blank {l : Launch} {D : va_G} {cy : Nat → ClassId} {Ad : Nat → Nat} (hA : AdOK 58 Ad) {σ : St} {o : (St × Int32)} (hf : f_X11_blank σ = some o) : CT l (wX cy Ad) D cy (AdA 58 Ad) yX11_blank cX11_blank 2 (some .int) 0 [.ref (Ad 0)] σ (o.1, (some (.int o.2))) := by
  refine CT.of mf_X11_blank (wX_D hA) (Nat.le_of_ble_eq_true rfl) ?_
  intro E xl g
  have ho : ((o.1, (some (.int o.2))) : St × Option Value) = (o.1, (some (.int o.2))) := rfl
  unfold f_X11_blank at hf
  show XJ E (wX cy Ad σ) 0 [(0, .ref (Ad 0))] []
  refine x_aload_n g 0 dX11_blank_0 rfl rfl ?_
  refine x_get g fl_X11_10 wx_0 rfl dX11_blank_1 ?_
  refine x_get g fl_X11_63 wx_1 rfl dX11_blank_4 ?_
  refine x_istore_n (lv' := [(1, .int (σ.1 5 0 0)), (0, .ref (Ad 0))]) g dX11_blank_7 rfl (by decide) rfl ?_
  refine x_aload_n g 1 dX11_blank_8 rfl rfl ?_
  refine x_get g fl_X11_10 wx_0 rfl dX11_blank_9 ?_
  refine x_iconst g 0 dX11_blank_12 (by decide) ?_
  refine x_putB g tyX5 fl_X11_63 tyX5_ok nmX5 wx_1 rfl rfl rfl (Nat.le_of_ble_eq_true rfl) (sx_1_0 _) dX11_blank_13 hf (fun σ1 hf => ?_)
  refine x_iload_n g 0 dX11_blank_16 rfl rfl ?_
  cases hf
  exact x_iret g rfl ho dX11_blank_17
/-! SlotChip$Page.codeAt(I)I -/
def f_X5_codeAt (σ : St) (p1 : Int32) : Option Int32 :=
  if 0 ≤ p1 then
    (if 30 ≤ p1 then
      some (-1)
    else
      (chk (inb p1 30) (
        some (σ.1 12 0 (Int32.toNatClampNeg p1)))))
  else
    some (-1)
set_option maxHeartbeats 4000000 in
set_option maxRecDepth 100000 in
theorem c_X5_codeAt {l : Launch} {D : va_G} {cy : Nat → ClassId} {Ad : Nat → Nat} (hA : AdOK 58 Ad) {σ : St} {p1 : Int32} {o : Int32} (hf : f_X5_codeAt σ p1 = some o) : CT l (wX cy Ad) D cy (AdA 58 Ad) yX5_codeAt cX5_codeAt 2 (some .int) 0 [.ref (Ad 1), .int p1] σ (σ, (some (.int o))) := by
  refine CT.of mf_X5_codeAt (wX_D hA) (Nat.le_of_ble_eq_true rfl) ?_
  intro E xl g
  have ho : ((σ, (some (.int o))) : St × Option Value) = (σ, (some (.int o))) := rfl
  unfold f_X5_codeAt at hf
  show XJ E (wX cy Ad σ) 0 [(0, .ref (Ad 1)), (1, .int p1)] []
  refine x_iload_n g 1 dX5_codeAt_0 rfl rfl ?_
  refine x_if_lt g 10 dX5_codeAt_1 (by decide) hf (fun c1 hf => ?_) (fun c1 hf => ?_)
  · refine x_iload_n g 1 dX5_codeAt_4 rfl rfl ?_
    refine x_bipush g 30 dX5_codeAt_5 (by decide) ?_
    refine x_icmp_lt g 14 dX5_codeAt_7 (by decide) hf (fun c7 hf => ?_) (fun c7 hf => ?_)
    · refine x_iconst g (-1) dX5_codeAt_10 (by decide) ?_
      refine x_goto g 20 dX5_codeAt_11 (by decide) ?_
      cases hf
      exact x_iret g rfl ho dX5_codeAt_20
    · refine x_aload_n g 0 dX5_codeAt_14 rfl rfl ?_
      refine x_get g fl_X5_9 wx_1 rfl dX5_codeAt_15 ?_
      refine x_iload_n g 1 dX5_codeAt_18 rfl rfl ?_
      refine x_iald g wx_2 dX5_codeAt_19 hf (fun hf => ?_)
      cases hf
      exact x_iret g rfl ho dX5_codeAt_20
  · refine x_iconst g (-1) dX5_codeAt_10 (by decide) ?_
    refine x_goto g 20 dX5_codeAt_11 (by decide) ?_
    cases hf
    exact x_iret g rfl ho dX5_codeAt_20
/-! SlotChip$Grid.routers()I -/
def f_X4_routers (σ : St) (i : Nat) : Option Int32 :=
  some ((σ.1 4 i 0) * (σ.1 4 i 1))
set_option maxHeartbeats 4000000 in
set_option maxRecDepth 100000 in
theorem c_X4_routers {l : Launch} {D : va_G} {cy : Nat → ClassId} {Ad : Nat → Nat} (hA : AdOK 58 Ad) {σ : St} {i : Nat} (h_i : i < 2) {o : Int32} (hf : f_X4_routers σ i = some o) : CT l (wX cy Ad) D cy (AdA 58 Ad) yX4_routers cX4_routers 1 (some .int) 0 [.ref (Ad (3 + 4 * i))] σ (σ, (some (.int o))) := by
  refine CT.of mf_X4_routers (wX_D hA) (Nat.le_of_ble_eq_true rfl) ?_
  intro E xl g
  have ho : ((σ, (some (.int o))) : St × Option Value) = (σ, (some (.int o))) := rfl
  unfold f_X4_routers at hf
  show XJ E (wX cy Ad σ) 0 [(0, .ref (Ad (3 + 4 * i)))] []
  refine x_aload_n g 0 dX4_routers_0 rfl rfl ?_
  refine x_get g fl_X4_15 (wx_G h_i) rfl dX4_routers_1 ?_
  refine x_aload_n g 0 dX4_routers_4 rfl rfl ?_
  refine x_get g fl_X4_19 (wx_G h_i) rfl dX4_routers_5 ?_
  refine x_imul g dX4_routers_8 ?_
  cases hf
  exact x_iret g rfl ho dX4_routers_9
/-! SlotChip$Grid.hasRouter(I)Z -/
def f_X4_hasRouter (σ : St) (i : Nat) (p1 : Int32) : Option Int32 :=
  if 0 ≤ p1 then
    ((f_X4_routers σ i).bind fun r1 =>
    if p1 < r1 then
      (if p1 < 9 then
        some 1
      else
        some 0)
    else
      some 0)
  else
    some 0
set_option maxHeartbeats 4000000 in
set_option maxRecDepth 100000 in
theorem c_X4_hasRouter {l : Launch} {D : va_G} {cy : Nat → ClassId} {Ad : Nat → Nat} (hA : AdOK 58 Ad) {σ : St} {i : Nat} {p1 : Int32} (h_i : i < 2) {o : Int32} (hf : f_X4_hasRouter σ i p1 = some o) : CT l (wX cy Ad) D cy (AdA 58 Ad) yX4_hasRouter cX4_hasRouter 2 (some .boolean) 1 [.ref (Ad (3 + 4 * i)), .int p1] σ (σ, (some (.int o))) := by
  refine CT.of mf_X4_hasRouter (wX_D hA) (Nat.le_of_ble_eq_true rfl) ?_
  intro E xl g
  have ho : ((σ, (some (.int o))) : St × Option Value) = (σ, (some (.int o))) := rfl
  unfold f_X4_hasRouter at hf
  show XJ E (wX cy Ad σ) 0 [(0, .ref (Ad (3 + 4 * i))), (1, .int p1)] []
  refine x_iload_n g 1 dX4_hasRouter_0 rfl rfl ?_
  refine x_if_lt g 22 dX4_hasRouter_1 (by decide) hf (fun c1 hf => ?_) (fun c1 hf => ?_)
  · refine x_iload_n g 1 dX4_hasRouter_4 rfl rfl ?_
    refine x_aload_n g 0 dX4_hasRouter_5 rfl rfl ?_
    obtain ⟨r1, hgr1, hf⟩ := obind hf
    refine x_callV (r := (RX4, TX4, 3)) g xl [] [.int p1] [.int r1, .int p1] (c_X4_routers hA h_i hgr1) mf_X4_routers im_X4_routers se_X4_routers ml_X4_30 rfl (wx_G h_i) (by decide) (by decide) rfl (Nat.le_of_ble_eq_true rfl) dX4_hasRouter_6 rfl rfl ?_
    refine x_icmp_ge g 22 dX4_hasRouter_9 (by decide) hf (fun c9 hf => ?_) (fun c9 hf => ?_)
    · refine x_iload_n g 1 dX4_hasRouter_12 rfl rfl ?_
      refine x_bipush g 9 dX4_hasRouter_13 (by decide) ?_
      refine x_icmp_ge g 22 dX4_hasRouter_15 (by decide) hf (fun c15 hf => ?_) (fun c15 hf => ?_)
      · refine x_iconst g 1 dX4_hasRouter_18 (by decide) ?_
        refine x_goto g 23 dX4_hasRouter_19 (by decide) ?_
        cases hf
        exact x_zret g rfl (by decide) ho dX4_hasRouter_23
      · refine x_iconst g 0 dX4_hasRouter_22 (by decide) ?_
        cases hf
        exact x_zret g rfl (by decide) ho dX4_hasRouter_23
    · refine x_iconst g 0 dX4_hasRouter_22 (by decide) ?_
      cases hf
      exact x_zret g rfl (by decide) ho dX4_hasRouter_23
  · refine x_iconst g 0 dX4_hasRouter_22 (by decide) ?_
    cases hf
    exact x_zret g rfl (by decide) ho dX4_hasRouter_23
/-! SlotChip$Grid.row(I)I -/
def f_X4_row (σ : St) (i : Nat) (p1 : Int32) : Option Int32 :=
  if (σ.1 4 i 0) < 1 then
    some 0
  else
    (chk (¬ (σ.1 4 i 0) = 0) (
      some (p1 / (σ.1 4 i 0))))
set_option maxHeartbeats 4000000 in
set_option maxRecDepth 100000 in
theorem c_X4_row {l : Launch} {D : va_G} {cy : Nat → ClassId} {Ad : Nat → Nat} (hA : AdOK 58 Ad) {σ : St} {i : Nat} {p1 : Int32} (h_i : i < 2) {o : Int32} (hf : f_X4_row σ i p1 = some o) : CT l (wX cy Ad) D cy (AdA 58 Ad) yX4_row cX4_row 2 (some .int) 0 [.ref (Ad (3 + 4 * i)), .int p1] σ (σ, (some (.int o))) := by
  refine CT.of mf_X4_row (wX_D hA) (Nat.le_of_ble_eq_true rfl) ?_
  intro E xl g
  have ho : ((σ, (some (.int o))) : St × Option Value) = (σ, (some (.int o))) := rfl
  unfold f_X4_row at hf
  show XJ E (wX cy Ad σ) 0 [(0, .ref (Ad (3 + 4 * i))), (1, .int p1)] []
  refine x_aload_n g 0 dX4_row_0 rfl rfl ?_
  refine x_get g fl_X4_15 (wx_G h_i) rfl dX4_row_1 ?_
  refine x_iconst g 1 dX4_row_4 (by decide) ?_
  refine x_icmp_ge g 12 dX4_row_5 (by decide) hf (fun c5 hf => ?_) (fun c5 hf => ?_)
  · refine x_iconst g 0 dX4_row_8 (by decide) ?_
    refine x_goto g 18 dX4_row_9 (by decide) ?_
    cases hf
    exact x_iret g rfl ho dX4_row_18
  · refine x_iload_n g 1 dX4_row_12 rfl rfl ?_
    refine x_aload_n g 0 dX4_row_13 rfl rfl ?_
    refine x_get g fl_X4_15 (wx_G h_i) rfl dX4_row_14 ?_
    have hz := (chk_some hf).1
    replace hf := (chk_some hf).2
    refine x_idiv g dX4_row_17 hz ?_
    cases hf
    exact x_iret g rfl ho dX4_row_18
/-! SlotChip$Grid.column(I)I -/
def f_X4_column (σ : St) (i : Nat) (p1 : Int32) : Option Int32 :=
  if (σ.1 4 i 0) < 1 then
    some 0
  else
    (chk (¬ (σ.1 4 i 0) = 0) (
      some (remI p1 (σ.1 4 i 0))))
set_option maxHeartbeats 4000000 in
set_option maxRecDepth 100000 in
theorem c_X4_column {l : Launch} {D : va_G} {cy : Nat → ClassId} {Ad : Nat → Nat} (hA : AdOK 58 Ad) {σ : St} {i : Nat} {p1 : Int32} (h_i : i < 2) {o : Int32} (hf : f_X4_column σ i p1 = some o) : CT l (wX cy Ad) D cy (AdA 58 Ad) yX4_column cX4_column 2 (some .int) 0 [.ref (Ad (3 + 4 * i)), .int p1] σ (σ, (some (.int o))) := by
  refine CT.of mf_X4_column (wX_D hA) (Nat.le_of_ble_eq_true rfl) ?_
  intro E xl g
  have ho : ((σ, (some (.int o))) : St × Option Value) = (σ, (some (.int o))) := rfl
  unfold f_X4_column at hf
  show XJ E (wX cy Ad σ) 0 [(0, .ref (Ad (3 + 4 * i))), (1, .int p1)] []
  refine x_aload_n g 0 dX4_column_0 rfl rfl ?_
  refine x_get g fl_X4_15 (wx_G h_i) rfl dX4_column_1 ?_
  refine x_iconst g 1 dX4_column_4 (by decide) ?_
  refine x_icmp_ge g 12 dX4_column_5 (by decide) hf (fun c5 hf => ?_) (fun c5 hf => ?_)
  · refine x_iconst g 0 dX4_column_8 (by decide) ?_
    refine x_goto g 18 dX4_column_9 (by decide) ?_
    cases hf
    exact x_iret g rfl ho dX4_column_18
  · refine x_iload_n g 1 dX4_column_12 rfl rfl ?_
    refine x_aload_n g 0 dX4_column_13 rfl rfl ?_
    refine x_get g fl_X4_15 (wx_G h_i) rfl dX4_column_14 ?_
    have hz := (chk_some hf).1
    replace hf := (chk_some hf).2
    refine x_irem g dX4_column_17 hz ?_
    cases hf
    exact x_iret g rfl ho dX4_column_18
/-! SlotChip$Grid.endBeside(II)I -/
def f_X4_endBeside (σ : St) (i : Nat) (p1 : Int32) (p2 : Int32) : Option Int32 :=
  if p2 = 0 then
    some p1
  else
    (if p2 = 1 then
      some (-1)
    else
      (if p2 = 2 then
        ((f_X4_row σ i p1).bind fun r1 =>
        if 0 < r1 then
          some (p1 - (σ.1 4 i 0))
        else
          some (-2))
      else
        (if p2 = 3 then
          ((f_X4_column σ i p1).bind fun r2 =>
          if r2 < ((σ.1 4 i 0) - 1) then
            some (p1 + 1)
          else
            some (-2))
        else
          (if p2 = 4 then
            ((f_X4_row σ i p1).bind fun r3 =>
            if r3 < ((σ.1 4 i 1) - 1) then
              some (p1 + (σ.1 4 i 0))
            else
              some (-2))
          else
            ((f_X4_column σ i p1).bind fun r4 =>
            if 0 < r4 then
              some (p1 - 1)
            else
              some (-2))))))
set_option maxHeartbeats 4000000 in
set_option maxRecDepth 100000 in
theorem c_X4_endBeside {l : Launch} {D : va_G} {cy : Nat → ClassId} {Ad : Nat → Nat} (hA : AdOK 58 Ad) {σ : St} {i : Nat} {p1 : Int32} {p2 : Int32} (h_i : i < 2) {o : Int32} (hf : f_X4_endBeside σ i p1 p2 = some o) : CT l (wX cy Ad) D cy (AdA 58 Ad) yX4_endBeside cX4_endBeside 3 (some .int) 1 [.ref (Ad (3 + 4 * i)), .int p1, .int p2] σ (σ, (some (.int o))) := by
  refine CT.of mf_X4_endBeside (wX_D hA) (Nat.le_of_ble_eq_true rfl) ?_
  intro E xl g
  have ho : ((σ, (some (.int o))) : St × Option Value) = (σ, (some (.int o))) := rfl
  unfold f_X4_endBeside at hf
  show XJ E (wX cy Ad σ) 0 [(0, .ref (Ad (3 + 4 * i))), (1, .int p1), (2, .int p2)] []
  refine x_iload_n g 2 dX4_endBeside_0 rfl rfl ?_
  refine sp hf (fun n_1_0 hf => ?_) (fun n_1_0 hf => ?_)
  · refine x_tin g 0 35 36 dX4_endBeside_1 n_1_0 (by decide) ?_
    refine x_iload_n g 1 dX4_endBeside_36 rfl rfl ?_
    cases hf
    exact x_iret g rfl ho dX4_endBeside_37
  · refine sp hf (fun n_1_1 hf => ?_) (fun n_1_1 hf => ?_)
    · refine x_tin g 1 37 38 dX4_endBeside_1 n_1_1 (by decide) ?_
      refine x_iconst g (-1) dX4_endBeside_38 (by decide) ?_
      cases hf
      exact x_iret g rfl ho dX4_endBeside_39
    · refine sp hf (fun n_1_2 hf => ?_) (fun n_1_2 hf => ?_)
      · refine x_tin g 2 39 40 dX4_endBeside_1 n_1_2 (by decide) ?_
        refine x_aload_n g 0 dX4_endBeside_40 rfl rfl ?_
        refine x_iload_n g 1 dX4_endBeside_41 rfl rfl ?_
        obtain ⟨r1, hgr1, hf⟩ := obind hf
        refine x_callV (r := (RX4, TX4, 3)) g xl [.int p1] [] [.int r1] (c_X4_row hA h_i hgr1) mf_X4_row im_X4_row se_X4_row ml_X4_40 rfl (wx_G h_i) (by decide) (by decide) rfl (Nat.le_of_ble_eq_true rfl) dX4_endBeside_42 rfl rfl ?_
        refine x_if_le g 57 dX4_endBeside_45 (by decide) hf (fun c45 hf => ?_) (fun c45 hf => ?_)
        · refine x_iload_n g 1 dX4_endBeside_48 rfl rfl ?_
          refine x_aload_n g 0 dX4_endBeside_49 rfl rfl ?_
          refine x_get g fl_X4_15 (wx_G h_i) rfl dX4_endBeside_50 ?_
          refine x_isub g dX4_endBeside_53 ?_
          refine x_goto g 59 dX4_endBeside_54 (by decide) ?_
          cases hf
          exact x_iret g rfl ho dX4_endBeside_59
        · refine x_bipush g (-2) dX4_endBeside_57 (by decide) ?_
          cases hf
          exact x_iret g rfl ho dX4_endBeside_59
      · refine sp hf (fun n_1_3 hf => ?_) (fun n_1_3 hf => ?_)
        · refine x_tin g 3 59 60 dX4_endBeside_1 n_1_3 (by decide) ?_
          refine x_aload_n g 0 dX4_endBeside_60 rfl rfl ?_
          refine x_iload_n g 1 dX4_endBeside_61 rfl rfl ?_
          obtain ⟨r2, hgr2, hf⟩ := obind hf
          refine x_callV (r := (RX4, TX4, 3)) g xl [.int p1] [] [.int r2] (c_X4_column hA h_i hgr2) mf_X4_column im_X4_column se_X4_column ml_X4_44 rfl (wx_G h_i) (by decide) (by decide) rfl (Nat.le_of_ble_eq_true rfl) dX4_endBeside_62 rfl rfl ?_
          refine x_aload_n g 0 dX4_endBeside_65 rfl rfl ?_
          refine x_get g fl_X4_15 (wx_G h_i) rfl dX4_endBeside_66 ?_
          refine x_iconst g 1 dX4_endBeside_69 (by decide) ?_
          refine x_isub g dX4_endBeside_70 ?_
          refine x_icmp_ge g 80 dX4_endBeside_71 (by decide) hf (fun c71 hf => ?_) (fun c71 hf => ?_)
          · refine x_iload_n g 1 dX4_endBeside_74 rfl rfl ?_
            refine x_iconst g 1 dX4_endBeside_75 (by decide) ?_
            refine x_iadd g dX4_endBeside_76 ?_
            refine x_goto g 82 dX4_endBeside_77 (by decide) ?_
            cases hf
            exact x_iret g rfl ho dX4_endBeside_82
          · refine x_bipush g (-2) dX4_endBeside_80 (by decide) ?_
            cases hf
            exact x_iret g rfl ho dX4_endBeside_82
        · refine sp hf (fun n_1_4 hf => ?_) (fun n_1_4 hf => ?_)
          · refine x_tin g 4 82 83 dX4_endBeside_1 n_1_4 (by decide) ?_
            refine x_aload_n g 0 dX4_endBeside_83 rfl rfl ?_
            refine x_iload_n g 1 dX4_endBeside_84 rfl rfl ?_
            obtain ⟨r3, hgr3, hf⟩ := obind hf
            refine x_callV (r := (RX4, TX4, 3)) g xl [.int p1] [] [.int r3] (c_X4_row hA h_i hgr3) mf_X4_row im_X4_row se_X4_row ml_X4_40 rfl (wx_G h_i) (by decide) (by decide) rfl (Nat.le_of_ble_eq_true rfl) dX4_endBeside_85 rfl rfl ?_
            refine x_aload_n g 0 dX4_endBeside_88 rfl rfl ?_
            refine x_get g fl_X4_19 (wx_G h_i) rfl dX4_endBeside_89 ?_
            refine x_iconst g 1 dX4_endBeside_92 (by decide) ?_
            refine x_isub g dX4_endBeside_93 ?_
            refine x_icmp_ge g 106 dX4_endBeside_94 (by decide) hf (fun c94 hf => ?_) (fun c94 hf => ?_)
            · refine x_iload_n g 1 dX4_endBeside_97 rfl rfl ?_
              refine x_aload_n g 0 dX4_endBeside_98 rfl rfl ?_
              refine x_get g fl_X4_15 (wx_G h_i) rfl dX4_endBeside_99 ?_
              refine x_iadd g dX4_endBeside_102 ?_
              refine x_goto g 108 dX4_endBeside_103 (by decide) ?_
              cases hf
              exact x_iret g rfl ho dX4_endBeside_108
            · refine x_bipush g (-2) dX4_endBeside_106 (by decide) ?_
              cases hf
              exact x_iret g rfl ho dX4_endBeside_108
          · refine x_tout g 109 dX4_endBeside_1 (by have e0 := tI n_1_0 (by decide : (0 : Int32).toInt = 0); have e1 := tI n_1_1 (by decide : (1 : Int32).toInt = 1); have e2 := tI n_1_2 (by decide : (2 : Int32).toInt = 2); have e3 := tI n_1_3 (by decide : (3 : Int32).toInt = 3); have e4 := tI n_1_4 (by decide : (4 : Int32).toInt = 4); omega) (by decide) ?_
            refine x_aload_n g 0 dX4_endBeside_109 rfl rfl ?_
            refine x_iload_n g 1 dX4_endBeside_110 rfl rfl ?_
            obtain ⟨r4, hgr4, hf⟩ := obind hf
            refine x_callV (r := (RX4, TX4, 3)) g xl [.int p1] [] [.int r4] (c_X4_column hA h_i hgr4) mf_X4_column im_X4_column se_X4_column ml_X4_44 rfl (wx_G h_i) (by decide) (by decide) rfl (Nat.le_of_ble_eq_true rfl) dX4_endBeside_111 rfl rfl ?_
            refine x_if_le g 123 dX4_endBeside_114 (by decide) hf (fun c114 hf => ?_) (fun c114 hf => ?_)
            · refine x_iload_n g 1 dX4_endBeside_117 rfl rfl ?_
              refine x_iconst g 1 dX4_endBeside_118 (by decide) ?_
              refine x_isub g dX4_endBeside_119 ?_
              refine x_goto g 125 dX4_endBeside_120 (by decide) ?_
              cases hf
              exact x_iret g rfl ho dX4_endBeside_125
            · refine x_bipush g (-2) dX4_endBeside_123 (by decide) ?_
              cases hf
              exact x_iret g rfl ho dX4_endBeside_125
/-! SlotChip$Grid.set(II)V -/
def f_X4_set_L12b (i0 : Nat) (K12 : St → Int32 → Option St) (σ : St) (v3 : Int32) : Option St :=
  if v3 < 54 then
    ((f_X4_hasRouter σ i0 (v3 / 6)).bind fun r3 =>
    if r3 = 0 then
      (chk (inb v3 54) (
        bnd (si σ 11 i0 (Int32.toNatClampNeg v3) (-2)) fun σ4 =>
        K12 σ4 (v3 + 1)))
    else
      ((f_X4_endBeside σ i0 (v3 / 6) (remI v3 6)).bind fun r5 =>
      chk (inb v3 54) (
        bnd (si σ 11 i0 (Int32.toNatClampNeg v3) r5) fun σ6 =>
        K12 σ6 (v3 + 1))))
  else
    some σ
def f_X4_set_L12 (i0 : Nat) : Nat → St → Int32 → Option St
  | 0 => fun _ _ => none
  | n + 1 => f_X4_set_L12b i0 (f_X4_set_L12 i0 n)
def f_X4_set (σ : St) (i : Nat) (p1 : Int32) (p2 : Int32) : Option St :=
  bnd (si σ 4 i 0 p1) fun σ1 =>
  bnd (si σ1 4 i 1 p2) fun σ2 =>
  f_X4_set_L12 i FU σ2 0
set_option maxHeartbeats 4000000 in
set_option maxRecDepth 100000 in
theorem l_X4_set_L12 {E : EV} {l : Launch} {D : va_G} {cy : Nat → ClassId} {Ad : Nat → Nat} {out : St × Option Value} {o : St} (hA : AdOK 58 Ad) (xl : XL E l D (AdA 58 Ad)) (g : XG E (wX cy Ad) cy cX4_set RX4 5 2 none out) (i0 : Nat) (ho : out = (o, none)) (h_i0 : i0 < 2) : ∀ (n : Nat) (σ : St) (v3 : Int32), f_X4_set_L12 i0 n σ v3 = some o → XJ E (wX cy Ad σ) 12 [(0, .ref (Ad (3 + 4 * i0))), (3, .int v3)] [] := by
  intro n
  induction n with
  | zero => intro _ _ hf; cases hf
  | succ n ih12 =>
    intro σ v3 hf
    replace hf : f_X4_set_L12b i0 (f_X4_set_L12 i0 n) σ v3 = some o := hf
    unfold f_X4_set_L12b at hf
    refine x_iload_n g 1 dX4_set_12 rfl rfl ?_
    refine x_bipush g 54 dX4_set_13 (by decide) ?_
    refine x_icmp_ge g 60 dX4_set_15 (by decide) hf (fun c15 hf => ?_) (fun c15 hf => ?_)
    · refine x_iload_n g 1 dX4_set_18 rfl rfl ?_
      refine x_bipush g 6 dX4_set_19 (by decide) ?_
      refine x_idiv g dX4_set_21 (by decide) ?_
      refine x_istore (lv' := [(4, .int (v3 / 6)), (0, .ref (Ad (3 + 4 * i0))), (3, .int v3)]) g dX4_set_22 (by decide) rfl ?_
      refine x_aload_n g 1 dX4_set_24 rfl rfl ?_
      refine x_get g fl_X4_9 (wx_G h_i0) rfl dX4_set_25 ?_
      refine x_iload_n g 2 dX4_set_28 rfl rfl ?_
      refine x_aload_n g 1 dX4_set_29 rfl rfl ?_
      refine x_iload g 0 dX4_set_30 rfl ?_
      obtain ⟨r3, hgr3, hf⟩ := obind hf
      refine x_callV (r := (RX4, TX4, 3)) g xl [.int (v3 / 6)] [.int v3, .ref (Ad (3 + 4 * i0 + 1))] [.int r3, .int v3, .ref (Ad (3 + 4 * i0 + 1))] (c_X4_hasRouter hA h_i0 hgr3) mf_X4_hasRouter im_X4_hasRouter se_X4_hasRouter ml_X4_22 rfl (wx_G h_i0) (by decide) (by decide) rfl (Nat.le_of_ble_eq_true rfl) dX4_set_32 rfl rfl ?_
      refine x_if_eq g 51 dX4_set_35 (by decide) hf (fun c35 hf => ?_) (fun c35 hf => ?_)
      · refine x_bipush g (-2) dX4_set_51 (by decide) ?_
        refine x_iastB g (wx_Ge h_i0) (sx_Ge h_i0 _ _) dX4_set_53 hf (fun σ4 hf => ?_)
        refine x_iinc g 2 (v3 + 1) (lv' := [(3, .int (v3 + 1)), (4, .int (v3 / 6)), (0, .ref (Ad (3 + 4 * i0)))]) dX4_set_54 rfl (by rfl) (by decide) rfl ?_
        refine x_goto g 12 dX4_set_57 (by decide) ?_
        exact x_sub [2, 0] rfl (ih12 _ _ hf)
      · refine x_aload_n g 1 dX4_set_38 rfl rfl ?_
        refine x_iload g 0 dX4_set_39 rfl ?_
        refine x_iload_n g 2 dX4_set_41 rfl rfl ?_
        refine x_bipush g 6 dX4_set_42 (by decide) ?_
        refine x_irem g dX4_set_44 (by decide) ?_
        obtain ⟨r5, hgr5, hf⟩ := obind hf
        refine x_callV (r := (RX4, TX4, 3)) g xl [.int (v3 / 6), .int (remI v3 6)] [.int v3, .ref (Ad (3 + 4 * i0 + 1))] [.int r5, .int v3, .ref (Ad (3 + 4 * i0 + 1))] (c_X4_endBeside hA h_i0 hgr5) mf_X4_endBeside im_X4_endBeside se_X4_endBeside ml_X4_26 rfl (wx_G h_i0) (by decide) (by decide) rfl (Nat.le_of_ble_eq_true rfl) dX4_set_45 rfl rfl ?_
        refine x_goto g 53 dX4_set_48 (by decide) ?_
        refine x_iastB g (wx_Ge h_i0) (sx_Ge h_i0 _ _) dX4_set_53 hf (fun σ6 hf => ?_)
        refine x_iinc g 2 (v3 + 1) (lv' := [(3, .int (v3 + 1)), (4, .int (v3 / 6)), (0, .ref (Ad (3 + 4 * i0)))]) dX4_set_54 rfl (by rfl) (by decide) rfl ?_
        refine x_goto g 12 dX4_set_57 (by decide) ?_
        exact x_sub [2, 0] rfl (ih12 _ _ hf)
    · cases hf
      exact x_vret g rfl ho dX4_set_60
set_option maxHeartbeats 4000000 in
set_option maxRecDepth 100000 in
theorem c_X4_set {l : Launch} {D : va_G} {cy : Nat → ClassId} {Ad : Nat → Nat} (hA : AdOK 58 Ad) {σ : St} {i : Nat} {p1 : Int32} {p2 : Int32} (h_i : i < 2) {o : St} (hf : f_X4_set σ i p1 p2 = some o) : CT l (wX cy Ad) D cy (AdA 58 Ad) yX4_set cX4_set 5 none 2 [.ref (Ad (3 + 4 * i)), .int p1, .int p2] σ (o, none) := by
  refine CT.of mf_X4_set (wX_D hA) (Nat.le_of_ble_eq_true rfl) ?_
  intro E xl g
  have ho : ((o, none) : St × Option Value) = (o, none) := rfl
  unfold f_X4_set at hf
  show XJ E (wX cy Ad σ) 0 [(0, .ref (Ad (3 + 4 * i))), (1, .int p1), (2, .int p2)] []
  refine x_aload_n g 0 dX4_set_0 rfl rfl ?_
  refine x_iload_n g 1 dX4_set_1 rfl rfl ?_
  refine x_putB g tyX4 fl_X4_15 tyX4_ok nmX4 (wx_G h_i) rfl rfl rfl (Nat.le_of_ble_eq_true rfl) (sx_G_0 h_i _) dX4_set_2 hf (fun σ1 hf => ?_)
  refine x_aload_n g 0 dX4_set_5 rfl rfl ?_
  refine x_iload_n g 2 dX4_set_6 rfl rfl ?_
  refine x_putB g tyX4 fl_X4_19 tyX4_ok nmX4 (wx_G h_i) rfl rfl rfl (Nat.le_of_ble_eq_true rfl) (sx_G_1 h_i _) dX4_set_7 hf (fun σ2 hf => ?_)
  refine x_iconst g 0 dX4_set_10 (by decide) ?_
  refine x_istore_n (lv' := [(3, .int 0), (0, .ref (Ad (3 + 4 * i))), (1, .int p1), (2, .int p2)]) g dX4_set_11 rfl (by decide) rfl ?_
  exact x_sub [1, 0] rfl (l_X4_set_L12 hA xl g _ ho h_i FU _ _ hf)
/-! SlotChip.isLinkNumber(I)Z -/
def f_X11_isLinkNumber (p1 : Int32) : Option Int32 :=
  if 0 ≤ p1 then
    (if p1 < 54 then
      some 1
    else
      some 0)
  else
    some 0
set_option maxHeartbeats 4000000 in
set_option maxRecDepth 100000 in
theorem c_X11_isLinkNumber {l : Launch} {D : va_G} {cy : Nat → ClassId} {Ad : Nat → Nat} (hA : AdOK 58 Ad) {σ : St} {p1 : Int32} {o : Int32} (hf : f_X11_isLinkNumber p1 = some o) : CT l (wX cy Ad) D cy (AdA 58 Ad) yX11_isLinkNumber cX11_isLinkNumber 1 (some .boolean) 0 [.int p1] σ (σ, (some (.int o))) := by
  refine CT.of mf_X11_isLinkNumber (wX_D hA) (Nat.le_of_ble_eq_true rfl) ?_
  intro E xl g
  have ho : ((σ, (some (.int o))) : St × Option Value) = (σ, (some (.int o))) := rfl
  unfold f_X11_isLinkNumber at hf
  show XJ E (wX cy Ad σ) 0 [(0, .int p1)] []
  refine x_iload_n g 0 dX11_isLinkNumber_0 rfl rfl ?_
  refine x_if_lt g 14 dX11_isLinkNumber_1 (by decide) hf (fun c1 hf => ?_) (fun c1 hf => ?_)
  · refine x_iload_n g 0 dX11_isLinkNumber_4 rfl rfl ?_
    refine x_bipush g 54 dX11_isLinkNumber_5 (by decide) ?_
    refine x_icmp_ge g 14 dX11_isLinkNumber_7 (by decide) hf (fun c7 hf => ?_) (fun c7 hf => ?_)
    · refine x_iconst g 1 dX11_isLinkNumber_10 (by decide) ?_
      refine x_goto g 15 dX11_isLinkNumber_11 (by decide) ?_
      cases hf
      exact x_zret g rfl (by decide) ho dX11_isLinkNumber_15
    · refine x_iconst g 0 dX11_isLinkNumber_14 (by decide) ?_
      cases hf
      exact x_zret g rfl (by decide) ho dX11_isLinkNumber_15
  · refine x_iconst g 0 dX11_isLinkNumber_14 (by decide) ?_
    cases hf
    exact x_zret g rfl (by decide) ho dX11_isLinkNumber_15
/-! SlotChip$Grid.hasLink(I)Z -/
def f_X4_hasLink (σ : St) (i : Nat) (p1 : Int32) : Option Int32 :=
  (f_X11_isLinkNumber p1).bind fun r1 =>
  if r1 = 0 then
    some 0
  else
    (chk (inb p1 54) (
      if (σ.1 11 i (Int32.toNatClampNeg p1)) = (-2) then
        some 0
      else
        some 1))
set_option maxHeartbeats 4000000 in
set_option maxRecDepth 100000 in
theorem c_X4_hasLink {l : Launch} {D : va_G} {cy : Nat → ClassId} {Ad : Nat → Nat} (hA : AdOK 58 Ad) {σ : St} {i : Nat} {p1 : Int32} (h_i : i < 2) {o : Int32} (hf : f_X4_hasLink σ i p1 = some o) : CT l (wX cy Ad) D cy (AdA 58 Ad) yX4_hasLink cX4_hasLink 2 (some .boolean) 1 [.ref (Ad (3 + 4 * i)), .int p1] σ (σ, (some (.int o))) := by
  refine CT.of mf_X4_hasLink (wX_D hA) (Nat.le_of_ble_eq_true rfl) ?_
  intro E xl g
  have ho : ((σ, (some (.int o))) : St × Option Value) = (σ, (some (.int o))) := rfl
  unfold f_X4_hasLink at hf
  show XJ E (wX cy Ad σ) 0 [(0, .ref (Ad (3 + 4 * i))), (1, .int p1)] []
  refine x_iload_n g 1 dX4_hasLink_0 rfl rfl ?_
  obtain ⟨r1, hgr1, hf⟩ := obind hf
  refine x_callN g xl [.int p1] [] [.int r1] (c_X11_isLinkNumber hA hgr1) mf_X11_isLinkNumber sm_X11_isLinkNumber nl_X4_34 (by decide) (by decide) rfl (Nat.le_of_ble_eq_true rfl) dX4_hasLink_1 rfl rfl ?_
  refine x_if_eq g 22 dX4_hasLink_4 (by decide) hf (fun c4 hf => ?_) (fun c4 hf => ?_)
  · refine x_iconst g 0 dX4_hasLink_22 (by decide) ?_
    cases hf
    exact x_zret g rfl (by decide) ho dX4_hasLink_23
  · refine x_aload_n g 0 dX4_hasLink_7 rfl rfl ?_
    refine x_get g fl_X4_9 (wx_G h_i) rfl dX4_hasLink_8 ?_
    refine x_iload_n g 1 dX4_hasLink_11 rfl rfl ?_
    refine x_iald g (wx_Ge h_i) dX4_hasLink_12 hf (fun hf => ?_)
    refine x_bipush g (-2) dX4_hasLink_13 (by decide) ?_
    refine x_icmp_eq g 22 dX4_hasLink_15 (by decide) hf (fun c15 hf => ?_) (fun c15 hf => ?_)
    · refine x_iconst g 0 dX4_hasLink_22 (by decide) ?_
      cases hf
      exact x_zret g rfl (by decide) ho dX4_hasLink_23
    · refine x_iconst g 1 dX4_hasLink_18 (by decide) ?_
      refine x_goto g 23 dX4_hasLink_19 (by decide) ?_
      cases hf
      exact x_zret g rfl (by decide) ho dX4_hasLink_23
/-! SlotChip$Grid.hasInnerLink(I)Z -/
def f_X4_hasInnerLink (σ : St) (i : Nat) (p1 : Int32) : Option Int32 :=
  (f_X4_hasLink σ i p1).bind fun r1 =>
  if r1 = 0 then
    some 0
  else
    (if 2 ≤ (remI p1 6) then
      some 1
    else
      some 0)
set_option maxHeartbeats 4000000 in
set_option maxRecDepth 100000 in
theorem c_X4_hasInnerLink {l : Launch} {D : va_G} {cy : Nat → ClassId} {Ad : Nat → Nat} (hA : AdOK 58 Ad) {σ : St} {i : Nat} {p1 : Int32} (h_i : i < 2) {o : Int32} (hf : f_X4_hasInnerLink σ i p1 = some o) : CT l (wX cy Ad) D cy (AdA 58 Ad) yX4_hasInnerLink cX4_hasInnerLink 2 (some .boolean) 2 [.ref (Ad (3 + 4 * i)), .int p1] σ (σ, (some (.int o))) := by
  refine CT.of mf_X4_hasInnerLink (wX_D hA) (Nat.le_of_ble_eq_true rfl) ?_
  intro E xl g
  have ho : ((σ, (some (.int o))) : St × Option Value) = (σ, (some (.int o))) := rfl
  unfold f_X4_hasInnerLink at hf
  show XJ E (wX cy Ad σ) 0 [(0, .ref (Ad (3 + 4 * i))), (1, .int p1)] []
  refine x_aload_n g 0 dX4_hasInnerLink_0 rfl rfl ?_
  refine x_iload_n g 1 dX4_hasInnerLink_1 rfl rfl ?_
  obtain ⟨r1, hgr1, hf⟩ := obind hf
  refine x_callV (r := (RX4, TX4, 3)) g xl [.int p1] [] [.int r1] (c_X4_hasLink hA h_i hgr1) mf_X4_hasLink im_X4_hasLink se_X4_hasLink ml_X4_37 rfl (wx_G h_i) (by decide) (by decide) rfl (Nat.le_of_ble_eq_true rfl) dX4_hasInnerLink_2 rfl rfl ?_
  refine x_if_eq g 20 dX4_hasInnerLink_5 (by decide) hf (fun c5 hf => ?_) (fun c5 hf => ?_)
  · refine x_iconst g 0 dX4_hasInnerLink_20 (by decide) ?_
    cases hf
    exact x_zret g rfl (by decide) ho dX4_hasInnerLink_21
  · refine x_iload_n g 1 dX4_hasInnerLink_8 rfl rfl ?_
    refine x_bipush g 6 dX4_hasInnerLink_9 (by decide) ?_
    refine x_irem g dX4_hasInnerLink_11 (by decide) ?_
    refine x_iconst g 2 dX4_hasInnerLink_12 (by decide) ?_
    refine x_icmp_lt g 20 dX4_hasInnerLink_13 (by decide) hf (fun c13 hf => ?_) (fun c13 hf => ?_)
    · refine x_iconst g 1 dX4_hasInnerLink_16 (by decide) ?_
      refine x_goto g 21 dX4_hasInnerLink_17 (by decide) ?_
      cases hf
      exact x_zret g rfl (by decide) ho dX4_hasInnerLink_21
    · refine x_iconst g 0 dX4_hasInnerLink_20 (by decide) ?_
      cases hf
      exact x_zret g rfl (by decide) ho dX4_hasInnerLink_21
/-! SlotChip$Page.layGrid()V -/
def f_X5_layGrid_L17b (K17 : St → Int32 → Option St) (σ : St) (v1 : Int32) : Option St :=
  if v1 < 54 then
    ((f_X4_hasInnerLink σ 0 v1).bind fun r3 =>
    chk (inb v1 54) (
      bnd (si σ 13 0 (Int32.toNatClampNeg v1) (r3 &&& 1)) fun σ4 =>
      K17 σ4 (v1 + 1)))
  else
    some σ
def f_X5_layGrid_L17 : Nat → St → Int32 → Option St
  | 0 => fun _ _ => none
  | n + 1 => f_X5_layGrid_L17b (f_X5_layGrid_L17 n)
def f_X5_layGrid (σ : St) : Option St :=
  (f_X4_set σ 0 (σ.1 5 0 1) (σ.1 5 0 2)).bind fun σ2 =>
  f_X5_layGrid_L17 FU σ2 0
set_option maxHeartbeats 4000000 in
set_option maxRecDepth 100000 in
theorem l_X5_layGrid_L17 {E : EV} {l : Launch} {D : va_G} {cy : Nat → ClassId} {Ad : Nat → Nat} {out : St × Option Value} {o : St} (hA : AdOK 58 Ad) (xl : XL E l D (AdA 58 Ad)) (g : XG E (wX cy Ad) cy cX5_layGrid RX5 2 3 none out) (ho : out = (o, none)) : ∀ (n : Nat) (σ : St) (v1 : Int32), f_X5_layGrid_L17 n σ v1 = some o → XJ E (wX cy Ad σ) 17 [(0, .ref (Ad 1)), (1, .int v1)] [] := by
  intro n
  induction n with
  | zero => intro _ _ hf; cases hf
  | succ n ih17 =>
    intro σ v1 hf
    replace hf : f_X5_layGrid_L17b (f_X5_layGrid_L17 n) σ v1 = some o := hf
    unfold f_X5_layGrid_L17b at hf
    refine x_iload_n g 1 dX5_layGrid_17 rfl rfl ?_
    refine x_bipush g 54 dX5_layGrid_18 (by decide) ?_
    refine x_icmp_ge g 43 dX5_layGrid_20 (by decide) hf (fun c20 hf => ?_) (fun c20 hf => ?_)
    · refine x_aload_n g 0 dX5_layGrid_23 rfl rfl ?_
      refine x_get g fl_X5_22 wx_1 rfl dX5_layGrid_24 ?_
      refine x_iload_n g 1 dX5_layGrid_27 rfl rfl ?_
      refine x_aload_n g 0 dX5_layGrid_28 rfl rfl ?_
      refine x_get g fl_X5_18 wx_1 rfl dX5_layGrid_29 ?_
      refine x_iload_n g 1 dX5_layGrid_32 rfl rfl ?_
      obtain ⟨r3, hgr3, hf⟩ := obind hf
      refine x_callV (r := (RX4, TX4, 3)) g xl [.int v1] [.int v1, .ref (Ad 5)] [.int r3, .int v1, .ref (Ad 5)] (c_X4_hasInnerLink hA (by decide) hgr3) mf_X4_hasInnerLink im_X4_hasInnerLink se_X4_hasInnerLink ml_X5_48 rfl wx_3 (by decide) (by decide) rfl (Nat.le_of_ble_eq_true rfl) dX5_layGrid_33 rfl rfl ?_
      refine x_zastB g (r3 &&& 1) rfl wx_5 (sx_5 _ _) dX5_layGrid_36 hf (fun σ4 hf => ?_)
      refine x_iinc g 1 (v1 + 1) (lv' := [(1, .int (v1 + 1)), (0, .ref (Ad 1))]) dX5_layGrid_37 rfl (by rfl) (by decide) rfl ?_
      refine x_goto g 17 dX5_layGrid_40 (by decide) ?_
      exact x_sub [1, 0] rfl (ih17 _ _ hf)
    · cases hf
      exact x_vret g rfl ho dX5_layGrid_43
set_option maxHeartbeats 4000000 in
set_option maxRecDepth 100000 in
theorem c_X5_layGrid {l : Launch} {D : va_G} {cy : Nat → ClassId} {Ad : Nat → Nat} (hA : AdOK 58 Ad) {σ : St} {o : St} (hf : f_X5_layGrid σ = some o) : CT l (wX cy Ad) D cy (AdA 58 Ad) yX5_layGrid cX5_layGrid 2 none 3 [.ref (Ad 1)] σ (o, none) := by
  refine CT.of mf_X5_layGrid (wX_D hA) (Nat.le_of_ble_eq_true rfl) ?_
  intro E xl g
  have ho : ((o, none) : St × Option Value) = (o, none) := rfl
  unfold f_X5_layGrid at hf
  show XJ E (wX cy Ad σ) 0 [(0, .ref (Ad 1))] []
  refine x_aload_n g 0 dX5_layGrid_0 rfl rfl ?_
  refine x_get g fl_X5_18 wx_1 rfl dX5_layGrid_1 ?_
  refine x_aload_n g 0 dX5_layGrid_4 rfl rfl ?_
  refine x_get g fl_X5_55 wx_1 rfl dX5_layGrid_5 ?_
  refine x_aload_n g 0 dX5_layGrid_8 rfl rfl ?_
  refine x_get g fl_X5_58 wx_1 rfl dX5_layGrid_9 ?_
  obtain ⟨σ2, hgr1, hf⟩ := obind hf
  refine x_callV (r := (RX4, TX4, 3)) g xl [.int (σ.1 5 0 1), .int (σ.1 5 0 2)] [] [] (c_X4_set hA (by decide) hgr1) mf_X4_set im_X4_set se_X4_set ml_X5_70 rfl wx_3 (by decide) (by decide) rfl (Nat.le_of_ble_eq_true rfl) dX5_layGrid_12 rfl rfl ?_
  refine x_iconst g 0 dX5_layGrid_15 (by decide) ?_
  refine x_istore_n (lv' := [(1, .int 0), (0, .ref (Ad 1))]) g dX5_layGrid_16 rfl (by decide) rfl ?_
  exact x_sub [1, 0] rfl (l_X5_layGrid_L17 hA xl g ho FU _ _ hf)
/-! SlotChip$Page.takesZero(I)Z -/
def f_X5_takesZero (σ : St) (p1 : Int32) : Option (St × Int32) :=
  if p1 = 48 then
    (bnd (si σ 5 0 3 10) fun σ1 =>
    some (σ1, 1))
  else
    some (σ, 0)
set_option maxHeartbeats 4000000 in
set_option maxRecDepth 100000 in
theorem c_X5_takesZero {l : Launch} {D : va_G} {cy : Nat → ClassId} {Ad : Nat → Nat} (hA : AdOK 58 Ad) {σ : St} {p1 : Int32} {o : (St × Int32)} (hf : f_X5_takesZero σ p1 = some o) : CT l (wX cy Ad) D cy (AdA 58 Ad) yX5_takesZero cX5_takesZero 2 (some .boolean) 0 [.ref (Ad 1), .int p1] σ (o.1, (some (.int o.2))) := by
  refine CT.of mf_X5_takesZero (wX_D hA) (Nat.le_of_ble_eq_true rfl) ?_
  intro E xl g
  have ho : ((o.1, (some (.int o.2))) : St × Option Value) = (o.1, (some (.int o.2))) := rfl
  unfold f_X5_takesZero at hf
  show XJ E (wX cy Ad σ) 0 [(0, .ref (Ad 1)), (1, .int p1)] []
  refine x_iload_n g 1 dX5_takesZero_0 rfl rfl ?_
  refine x_bipush g 48 dX5_takesZero_1 (by decide) ?_
  refine x_icmp_eq g 8 dX5_takesZero_3 (by decide) hf (fun c3 hf => ?_) (fun c3 hf => ?_)
  · refine x_aload_n g 0 dX5_takesZero_8 rfl rfl ?_
    refine x_bipush g 10 dX5_takesZero_9 (by decide) ?_
    refine x_putB g tyX5 fl_X5_30 tyX5_ok nmX5 wx_1 rfl rfl rfl (Nat.le_of_ble_eq_true rfl) (sx_1_3 _) dX5_takesZero_11 hf (fun σ1 hf => ?_)
    refine x_iconst g 1 dX5_takesZero_14 (by decide) ?_
    cases hf
    exact x_zret g rfl (by decide) ho dX5_takesZero_15
  · refine x_iconst g 0 dX5_takesZero_6 (by decide) ?_
    cases hf
    exact x_zret g rfl (by decide) ho dX5_takesZero_7
/-! SlotChip$Page.partOfBreak(I)I -/
def f_X5_partOfBreak (σ : St) (p1 : Int32) : Option Int32 :=
  if (σ.1 5 0 3) = 10 then
    some (remI (p1 - 6) 3)
  else
    some (remI (p1 - 5) 3)
set_option maxHeartbeats 4000000 in
set_option maxRecDepth 100000 in
theorem c_X5_partOfBreak {l : Launch} {D : va_G} {cy : Nat → ClassId} {Ad : Nat → Nat} (hA : AdOK 58 Ad) {σ : St} {p1 : Int32} {o : Int32} (hf : f_X5_partOfBreak σ p1 = some o) : CT l (wX cy Ad) D cy (AdA 58 Ad) yX5_partOfBreak cX5_partOfBreak 2 (some .int) 0 [.ref (Ad 1), .int p1] σ (σ, (some (.int o))) := by
  refine CT.of mf_X5_partOfBreak (wX_D hA) (Nat.le_of_ble_eq_true rfl) ?_
  intro E xl g
  have ho : ((σ, (some (.int o))) : St × Option Value) = (σ, (some (.int o))) := rfl
  unfold f_X5_partOfBreak at hf
  show XJ E (wX cy Ad σ) 0 [(0, .ref (Ad 1)), (1, .int p1)] []
  refine x_iload_n g 1 dX5_partOfBreak_0 rfl rfl ?_
  refine x_aload_n g 0 dX5_partOfBreak_1 rfl rfl ?_
  refine x_get g fl_X5_30 wx_1 rfl dX5_partOfBreak_2 ?_
  refine x_bipush g 10 dX5_partOfBreak_5 (by decide) ?_
  refine x_icmp_ne g 15 dX5_partOfBreak_7 (by decide) hf (fun c7 hf => ?_) (fun c7 hf => ?_)
  · refine x_bipush g 6 dX5_partOfBreak_10 (by decide) ?_
    refine x_goto g 16 dX5_partOfBreak_12 (by decide) ?_
    refine x_isub g dX5_partOfBreak_16 ?_
    refine x_iconst g 3 dX5_partOfBreak_17 (by decide) ?_
    refine x_irem g dX5_partOfBreak_18 (by decide) ?_
    cases hf
    exact x_iret g rfl ho dX5_partOfBreak_19
  · refine x_iconst g 5 dX5_partOfBreak_15 (by decide) ?_
    refine x_isub g dX5_partOfBreak_16 ?_
    refine x_iconst g 3 dX5_partOfBreak_17 (by decide) ?_
    refine x_irem g dX5_partOfBreak_18 (by decide) ?_
    cases hf
    exact x_iret g rfl ho dX5_partOfBreak_19
/-! SlotChip$Page.anyNameable(II)Z -/
def f_X5_anyNameable_L6b (σ : St) (v2 : Int32) (K6 : Int32 → Option Int32) (v3 : Int32) : Option Int32 :=
  if v3 < v2 then
    (if v3 < 54 then
      (chk (inb v3 54) (
        if (σ.1 13 0 (Int32.toNatClampNeg v3)) = 0 then
          K6 (v3 + 1)
        else
          some 1))
    else
      some 0)
  else
    some 0
def f_X5_anyNameable_L6 (σ : St) (v2 : Int32) : Nat → Int32 → Option Int32
  | 0 => fun _ => none
  | n + 1 => f_X5_anyNameable_L6b σ v2 (f_X5_anyNameable_L6 σ v2 n)
def f_X5_anyNameable (σ : St) (p1 : Int32) (p2 : Int32) : Option Int32 :=
  bnd (if 0 < p1 then p1 else 0) fun y1 =>
  f_X5_anyNameable_L6 σ p2 FU y1
set_option maxHeartbeats 4000000 in
set_option maxRecDepth 100000 in
theorem l_X5_anyNameable_L6 {E : EV} {l : Launch} {D : va_G} {cy : Nat → ClassId} {Ad : Nat → Nat} {out : St × Option Value} {o : Int32} (hA : AdOK 58 Ad) (xl : XL E l D (AdA 58 Ad)) (g : XG E (wX cy Ad) cy cX5_anyNameable RX5 4 1 (some .boolean) out) (σ : St) (v2 : Int32) (ho : out = (σ, (some (.int o)))) : ∀ (n : Nat) (v3 : Int32), f_X5_anyNameable_L6 σ v2 n v3 = some o → XJ E (wX cy Ad σ) 6 [(0, .ref (Ad 1)), (2, .int v2), (3, .int v3)] [] := by
  intro n
  induction n with
  | zero => intro _ hf; cases hf
  | succ n ih6 =>
    intro v3 hf
    replace hf : f_X5_anyNameable_L6b σ v2 (f_X5_anyNameable_L6 σ v2 n) v3 = some o := hf
    unfold f_X5_anyNameable_L6b at hf
    refine x_iload_n g 2 dX5_anyNameable_6 rfl rfl ?_
    refine x_iload_n g 1 dX5_anyNameable_7 rfl rfl ?_
    refine x_icmp_ge g 34 dX5_anyNameable_8 (by decide) hf (fun c8 hf => ?_) (fun c8 hf => ?_)
    · refine x_iload_n g 2 dX5_anyNameable_11 rfl rfl ?_
      refine x_bipush g 54 dX5_anyNameable_12 (by decide) ?_
      refine x_icmp_ge g 34 dX5_anyNameable_14 (by decide) hf (fun c14 hf => ?_) (fun c14 hf => ?_)
      · refine x_aload_n g 0 dX5_anyNameable_17 rfl rfl ?_
        refine x_get g fl_X5_22 wx_1 rfl dX5_anyNameable_18 ?_
        refine x_iload_n g 2 dX5_anyNameable_21 rfl rfl ?_
        refine x_zald g wx_5 dX5_anyNameable_22 hf (fun hf => ?_)
        refine x_if_eq g 28 dX5_anyNameable_23 (by decide) hf (fun c23 hf => ?_) (fun c23 hf => ?_)
        · refine x_iinc g 2 (v3 + 1) (lv' := [(3, .int (v3 + 1)), (0, .ref (Ad 1)), (2, .int v2)]) dX5_anyNameable_28 rfl (by rfl) (by decide) rfl ?_
          refine x_goto g 6 dX5_anyNameable_31 (by decide) ?_
          exact x_sub [1, 2, 0] rfl (ih6 _ hf)
        · refine x_iconst g 1 dX5_anyNameable_26 (by decide) ?_
          cases hf
          exact x_zret g rfl (by decide) ho dX5_anyNameable_27
      · refine x_iconst g 0 dX5_anyNameable_34 (by decide) ?_
        cases hf
        exact x_zret g rfl (by decide) ho dX5_anyNameable_35
    · refine x_iconst g 0 dX5_anyNameable_34 (by decide) ?_
      cases hf
      exact x_zret g rfl (by decide) ho dX5_anyNameable_35
set_option maxHeartbeats 4000000 in
set_option maxRecDepth 100000 in
theorem c_X5_anyNameable {l : Launch} {D : va_G} {cy : Nat → ClassId} {Ad : Nat → Nat} (hA : AdOK 58 Ad) {σ : St} {p1 : Int32} {p2 : Int32} {o : Int32} (hf : f_X5_anyNameable σ p1 p2 = some o) : CT l (wX cy Ad) D cy (AdA 58 Ad) yX5_anyNameable cX5_anyNameable 4 (some .boolean) 1 [.ref (Ad 1), .int p1, .int p2] σ (σ, (some (.int o))) := by
  refine CT.of mf_X5_anyNameable (wX_D hA) (Nat.le_of_ble_eq_true rfl) ?_
  intro E xl g
  have ho : ((σ, (some (.int o))) : St × Option Value) = (σ, (some (.int o))) := rfl
  unfold f_X5_anyNameable at hf
  show XJ E (wX cy Ad σ) 0 [(0, .ref (Ad 1)), (1, .int p1), (2, .int p2)] []
  refine x_iconst g 0 dX5_anyNameable_0 (by decide) ?_
  refine x_iload_n g 1 dX5_anyNameable_1 rfl rfl ?_
  refine x_mmax g ml_X5_93 (by decide) (Nat.le_of_ble_eq_true rfl) dX5_anyNameable_2 ?_
  refine x_nami hf (fun y1 hf => ?_)
  refine x_istore_n (lv' := [(3, .int y1), (0, .ref (Ad 1)), (1, .int p1), (2, .int p2)]) g dX5_anyNameable_5 rfl (by decide) rfl ?_
  exact x_sub [1, 3, 0] rfl (l_X5_anyNameable_L6 hA xl g _ _ ho FU _ hf)
/-! SlotChip.linkOf(II)I -/
def f_X11_linkOf (p1 : Int32) (p2 : Int32) : Option Int32 :=
  some ((6 * p1) + p2)
set_option maxHeartbeats 4000000 in
set_option maxRecDepth 100000 in
theorem c_X11_linkOf {l : Launch} {D : va_G} {cy : Nat → ClassId} {Ad : Nat → Nat} (hA : AdOK 58 Ad) {σ : St} {p1 : Int32} {p2 : Int32} {o : Int32} (hf : f_X11_linkOf p1 p2 = some o) : CT l (wX cy Ad) D cy (AdA 58 Ad) yX11_linkOf cX11_linkOf 2 (some .int) 0 [.int p1, .int p2] σ (σ, (some (.int o))) := by
  refine CT.of mf_X11_linkOf (wX_D hA) (Nat.le_of_ble_eq_true rfl) ?_
  intro E xl g
  have ho : ((σ, (some (.int o))) : St × Option Value) = (σ, (some (.int o))) := rfl
  unfold f_X11_linkOf at hf
  show XJ E (wX cy Ad σ) 0 [(0, .int p1), (1, .int p2)] []
  refine x_bipush g 6 dX11_linkOf_0 (by decide) ?_
  refine x_iload_n g 0 dX11_linkOf_2 rfl rfl ?_
  refine x_imul g dX11_linkOf_3 ?_
  refine x_iload_n g 1 dX11_linkOf_4 rfl rfl ?_
  refine x_iadd g dX11_linkOf_5 ?_
  cases hf
  exact x_iret g rfl ho dX11_linkOf_6
/-! SlotChip$Page.portOf(I)I -/
def f_X5_portOf (p1 : Int32) : Option Int32 :=
  if p1 = 101 then
    some 3
  else
    (if p1 = 110 then
      some 2
    else
      (if p1 = 115 then
        some 4
      else
        (if p1 = 119 then
          some 5
        else
          some (-1))))
set_option maxHeartbeats 4000000 in
set_option maxRecDepth 100000 in
theorem c_X5_portOf {l : Launch} {D : va_G} {cy : Nat → ClassId} {Ad : Nat → Nat} (hA : AdOK 58 Ad) {σ : St} {p1 : Int32} {o : Int32} (hf : f_X5_portOf p1 = some o) : CT l (wX cy Ad) D cy (AdA 58 Ad) yX5_portOf cX5_portOf 1 (some .int) 0 [.int p1] σ (σ, (some (.int o))) := by
  refine CT.of mf_X5_portOf (wX_D hA) (Nat.le_of_ble_eq_true rfl) ?_
  intro E xl g
  have ho : ((σ, (some (.int o))) : St × Option Value) = (σ, (some (.int o))) := rfl
  unfold f_X5_portOf at hf
  show XJ E (wX cy Ad σ) 0 [(0, .int p1)] []
  refine x_iload_n g 0 dX5_portOf_0 rfl rfl ?_
  refine sp hf (fun n_1_101 hf => ?_) (fun n_1_101 hf => ?_)
  · refine x_lkin g 101 45 46 dX5_portOf_1 n_1_101 (by decide) (by decide) (by decide) ?_
    refine x_iconst g 3 dX5_portOf_46 (by decide) ?_
    cases hf
    exact x_iret g rfl ho dX5_portOf_47
  · refine sp hf (fun n_1_110 hf => ?_) (fun n_1_110 hf => ?_)
    · refine x_lkin g 110 43 44 dX5_portOf_1 n_1_110 (by decide) (by decide) (by decide) ?_
      refine x_iconst g 2 dX5_portOf_44 (by decide) ?_
      cases hf
      exact x_iret g rfl ho dX5_portOf_45
    · refine sp hf (fun n_1_115 hf => ?_) (fun n_1_115 hf => ?_)
      · refine x_lkin g 115 47 48 dX5_portOf_1 n_1_115 (by decide) (by decide) (by decide) ?_
        refine x_iconst g 4 dX5_portOf_48 (by decide) ?_
        cases hf
        exact x_iret g rfl ho dX5_portOf_49
      · refine sp hf (fun n_1_119 hf => ?_) (fun n_1_119 hf => ?_)
        · refine x_lkin g 119 49 50 dX5_portOf_1 n_1_119 (by decide) (by decide) (by decide) ?_
          refine x_iconst g 5 dX5_portOf_50 (by decide) ?_
          cases hf
          exact x_iret g rfl ho dX5_portOf_51
        · refine x_lkout g 52 dX5_portOf_1 (by decide) (by have e101 := tI n_1_101 (by decide : (101 : Int32).toInt = 101); have e110 := tI n_1_110 (by decide : (110 : Int32).toInt = 110); have e115 := tI n_1_115 (by decide : (115 : Int32).toInt = 115); have e119 := tI n_1_119 (by decide : (119 : Int32).toInt = 119); simp [Op.lookupswitch.offset, e101, Ne.symm e101, e110, Ne.symm e110, e115, Ne.symm e115, e119, Ne.symm e119]) (by decide) ?_
          refine x_iconst g (-1) dX5_portOf_52 (by decide) ?_
          cases hf
          exact x_iret g rfl ho dX5_portOf_53
/-! SlotChip$Page.takesPort(I)Z -/
def f_X5_takesPort (σ : St) (p1 : Int32) : Option (St × Int32) :=
  (f_X11_linkOf (σ.1 5 0 8) p1).bind fun r1 =>
  if p1 = (-1) then
    some (σ, 0)
  else
    ((f_X11_isLinkNumber r1).bind fun r2 =>
    if r2 = 0 then
      some (σ, 0)
    else
      (chk (inb r1 54) (
        if (σ.1 13 0 (Int32.toNatClampNeg r1)) = 0 then
          some (σ, 0)
        else
          (chk (inb r1 54) (
            bnd (si σ 13 0 (Int32.toNatClampNeg r1) 0) fun σ3 =>
            some (σ3, 1))))))
set_option maxHeartbeats 4000000 in
set_option maxRecDepth 100000 in
theorem c_X5_takesPort {l : Launch} {D : va_G} {cy : Nat → ClassId} {Ad : Nat → Nat} (hA : AdOK 58 Ad) {σ : St} {p1 : Int32} {o : (St × Int32)} (hf : f_X5_takesPort σ p1 = some o) : CT l (wX cy Ad) D cy (AdA 58 Ad) yX5_takesPort cX5_takesPort 3 (some .boolean) 1 [.ref (Ad 1), .int p1] σ (o.1, (some (.int o.2))) := by
  refine CT.of mf_X5_takesPort (wX_D hA) (Nat.le_of_ble_eq_true rfl) ?_
  intro E xl g
  have ho : ((o.1, (some (.int o.2))) : St × Option Value) = (o.1, (some (.int o.2))) := rfl
  unfold f_X5_takesPort at hf
  show XJ E (wX cy Ad σ) 0 [(0, .ref (Ad 1)), (1, .int p1)] []
  refine x_aload_n g 0 dX5_takesPort_0 rfl rfl ?_
  refine x_get g fl_X5_77 wx_1 rfl dX5_takesPort_1 ?_
  refine x_iload_n g 1 dX5_takesPort_4 rfl rfl ?_
  obtain ⟨r1, hgr1, hf⟩ := obind hf
  refine x_callN g xl [.int (σ.1 5 0 8), .int p1] [] [.int r1] (c_X11_linkOf hA hgr1) mf_X11_linkOf sm_X11_linkOf nl_X5_83 (by decide) (by decide) rfl (Nat.le_of_ble_eq_true rfl) dX5_takesPort_5 rfl rfl ?_
  refine x_istore_n (lv' := [(2, .int r1), (0, .ref (Ad 1)), (1, .int p1)]) g dX5_takesPort_8 rfl (by decide) rfl ?_
  refine x_iload_n g 2 dX5_takesPort_9 rfl rfl ?_
  refine x_iconst g (-1) dX5_takesPort_10 (by decide) ?_
  refine x_icmp_eq g 30 dX5_takesPort_11 (by decide) hf (fun c11 hf => ?_) (fun c11 hf => ?_)
  · refine x_iconst g 0 dX5_takesPort_30 (by decide) ?_
    cases hf
    exact x_zret g rfl (by decide) ho dX5_takesPort_31
  · refine x_iload_n g 0 dX5_takesPort_14 rfl rfl ?_
    obtain ⟨r2, hgr2, hf⟩ := obind hf
    refine x_callN g xl [.int r1] [] [.int r2] (c_X11_isLinkNumber hA hgr2) mf_X11_isLinkNumber sm_X11_isLinkNumber nl_X5_52 (by decide) (by decide) rfl (Nat.le_of_ble_eq_true rfl) dX5_takesPort_15 rfl rfl ?_
    refine x_if_eq g 30 dX5_takesPort_18 (by decide) hf (fun c18 hf => ?_) (fun c18 hf => ?_)
    · refine x_iconst g 0 dX5_takesPort_30 (by decide) ?_
      cases hf
      exact x_zret g rfl (by decide) ho dX5_takesPort_31
    · refine x_aload_n g 1 dX5_takesPort_21 rfl rfl ?_
      refine x_get g fl_X5_22 wx_1 rfl dX5_takesPort_22 ?_
      refine x_iload_n g 0 dX5_takesPort_25 rfl rfl ?_
      refine x_zald g wx_5 dX5_takesPort_26 hf (fun hf => ?_)
      refine x_if_ne g 32 dX5_takesPort_27 (by decide) hf (fun c27 hf => ?_) (fun c27 hf => ?_)
      · refine x_iconst g 0 dX5_takesPort_30 (by decide) ?_
        cases hf
        exact x_zret g rfl (by decide) ho dX5_takesPort_31
      · refine x_aload_n g 1 dX5_takesPort_32 rfl rfl ?_
        refine x_get g fl_X5_22 wx_1 rfl dX5_takesPort_33 ?_
        refine x_iload_n g 0 dX5_takesPort_36 rfl rfl ?_
        refine x_iconst g 0 dX5_takesPort_37 (by decide) ?_
        refine x_zastB g 0 rfl wx_5 (sx_5 _ _) dX5_takesPort_38 hf (fun σ3 hf => ?_)
        refine x_iconst g 1 dX5_takesPort_39 (by decide) ?_
        cases hf
        exact x_zret g rfl (by decide) ho dX5_takesPort_40
/-! SlotChip$Page.takesBreak(II)Z -/
def f_X5_takesBreak (σ : St) (p1 : Int32) (p2 : Int32) : Option (St × Int32) :=
  (f_X5_partOfBreak σ p1).bind fun r1 =>
  if r1 = 0 then
    (if p2 = 45 then
      ((f_X5_anyNameable σ 0 54).bind fun r2 =>
      if r2 = 0 then
        some (σ, 0)
      else
        some (σ, 1))
    else
      some (σ, 0))
  else
    (if r1 = 1 then
      (bnd (si σ 5 0 8 (p2 - 48)) fun σ3 =>
      (f_X4_hasRouter σ3 0 (σ3.1 5 0 8)).bind fun r4 =>
      if r4 = 0 then
        some (σ3, 0)
      else
        ((f_X11_linkOf (σ3.1 5 0 8) 0).bind fun r5 =>
        (f_X11_linkOf (σ3.1 5 0 8) 6).bind fun r6 =>
        (f_X5_anyNameable σ3 r5 r6).bind fun r7 =>
        if r7 = 0 then
          some (σ3, 0)
        else
          some (σ3, 1)))
    else
      ((f_X5_portOf p2).bind fun r8 =>
      (f_X5_takesPort σ r8).bind fun (σ10, r9) =>
      chk (isZ r9) (some (σ10, r9))))
set_option maxHeartbeats 4000000 in
set_option maxRecDepth 100000 in
theorem c_X5_takesBreak {l : Launch} {D : va_G} {cy : Nat → ClassId} {Ad : Nat → Nat} (hA : AdOK 58 Ad) {σ : St} {p1 : Int32} {p2 : Int32} {o : (St × Int32)} (hf : f_X5_takesBreak σ p1 p2 = some o) : CT l (wX cy Ad) D cy (AdA 58 Ad) yX5_takesBreak cX5_takesBreak 3 (some .boolean) 2 [.ref (Ad 1), .int p1, .int p2] σ (o.1, (some (.int o.2))) := by
  refine CT.of mf_X5_takesBreak (wX_D hA) (Nat.le_of_ble_eq_true rfl) ?_
  intro E xl g
  have ho : ((o.1, (some (.int o.2))) : St × Option Value) = (o.1, (some (.int o.2))) := rfl
  unfold f_X5_takesBreak at hf
  show XJ E (wX cy Ad σ) 0 [(0, .ref (Ad 1)), (1, .int p1), (2, .int p2)] []
  refine x_aload_n g 0 dX5_takesBreak_0 rfl rfl ?_
  refine x_iload_n g 1 dX5_takesBreak_1 rfl rfl ?_
  obtain ⟨r1, hgr1, hf⟩ := obind hf
  refine x_callV (r := (RX5, TX5, 9)) g xl [.int p1] [] [.int r1] (c_X5_partOfBreak hA hgr1) mf_X5_partOfBreak im_X5_partOfBreak se_X5_partOfBreak ml_X5_41 rfl wx_1 (by decide) (by decide) rfl (Nat.le_of_ble_eq_true rfl) dX5_takesBreak_2 rfl rfl ?_
  refine sp hf (fun n_5_0 hf => ?_) (fun n_5_0 hf => ?_)
  · refine x_lkin g 0 27 32 dX5_takesBreak_5 n_5_0 (by decide) (by decide) (by decide) ?_
    refine x_iload_n g 2 dX5_takesBreak_32 rfl rfl ?_
    refine x_bipush g 45 dX5_takesBreak_33 (by decide) ?_
    refine x_icmp_ne g 52 dX5_takesBreak_35 (by decide) hf (fun c35 hf => ?_) (fun c35 hf => ?_)
    · refine x_aload_n g 0 dX5_takesBreak_38 rfl rfl ?_
      refine x_iconst g 0 dX5_takesBreak_39 (by decide) ?_
      refine x_bipush g 54 dX5_takesBreak_40 (by decide) ?_
      obtain ⟨r2, hgr2, hf⟩ := obind hf
      refine x_callV (r := (RX5, TX5, 9)) g xl [.int 0, .int 54] [] [.int r2] (c_X5_anyNameable hA hgr2) mf_X5_anyNameable im_X5_anyNameable se_X5_anyNameable ml_X5_74 rfl wx_1 (by decide) (by decide) rfl (Nat.le_of_ble_eq_true rfl) dX5_takesBreak_42 rfl rfl ?_
      refine x_if_eq g 52 dX5_takesBreak_45 (by decide) hf (fun c45 hf => ?_) (fun c45 hf => ?_)
      · refine x_iconst g 0 dX5_takesBreak_52 (by decide) ?_
        cases hf
        exact x_zret g rfl (by decide) ho dX5_takesBreak_53
      · refine x_iconst g 1 dX5_takesBreak_48 (by decide) ?_
        refine x_goto g 53 dX5_takesBreak_49 (by decide) ?_
        cases hf
        exact x_zret g rfl (by decide) ho dX5_takesBreak_53
    · refine x_iconst g 0 dX5_takesBreak_52 (by decide) ?_
      cases hf
      exact x_zret g rfl (by decide) ho dX5_takesBreak_53
  · refine sp hf (fun n_5_1 hf => ?_) (fun n_5_1 hf => ?_)
    · refine x_lkin g 1 49 54 dX5_takesBreak_5 n_5_1 (by decide) (by decide) (by decide) ?_
      refine x_aload_n g 0 dX5_takesBreak_54 rfl rfl ?_
      refine x_iload_n g 2 dX5_takesBreak_55 rfl rfl ?_
      refine x_bipush g 48 dX5_takesBreak_56 (by decide) ?_
      refine x_isub g dX5_takesBreak_58 ?_
      refine x_putB g tyX5 fl_X5_77 tyX5_ok nmX5 wx_1 rfl rfl rfl (Nat.le_of_ble_eq_true rfl) (sx_1_8 _) dX5_takesBreak_59 hf (fun σ3 hf => ?_)
      refine x_aload_n g 0 dX5_takesBreak_62 rfl rfl ?_
      refine x_get g fl_X5_18 wx_1 rfl dX5_takesBreak_63 ?_
      refine x_aload_n g 0 dX5_takesBreak_66 rfl rfl ?_
      refine x_get g fl_X5_77 wx_1 rfl dX5_takesBreak_67 ?_
      obtain ⟨r4, hgr4, hf⟩ := obind hf
      refine x_callV (r := (RX4, TX4, 3)) g xl [.int (σ3.1 5 0 8)] [] [.int r4] (c_X4_hasRouter hA (by decide) hgr4) mf_X4_hasRouter im_X4_hasRouter se_X4_hasRouter ml_X5_80 rfl wx_3 (by decide) (by decide) rfl (Nat.le_of_ble_eq_true rfl) dX5_takesBreak_70 rfl rfl ?_
      refine x_if_eq g 104 dX5_takesBreak_73 (by decide) hf (fun c73 hf => ?_) (fun c73 hf => ?_)
      · refine x_iconst g 0 dX5_takesBreak_104 (by decide) ?_
        cases hf
        exact x_zret g rfl (by decide) ho dX5_takesBreak_105
      · refine x_aload_n g 0 dX5_takesBreak_76 rfl rfl ?_
        refine x_aload_n g 0 dX5_takesBreak_77 rfl rfl ?_
        refine x_get g fl_X5_77 wx_1 rfl dX5_takesBreak_78 ?_
        refine x_iconst g 0 dX5_takesBreak_81 (by decide) ?_
        obtain ⟨r5, hgr5, hf⟩ := obind hf
        refine x_callN g xl [.int (σ3.1 5 0 8), .int 0] [.ref (Ad 1)] [.int r5, .ref (Ad 1)] (c_X11_linkOf hA hgr5) mf_X11_linkOf sm_X11_linkOf nl_X5_83 (by decide) (by decide) rfl (Nat.le_of_ble_eq_true rfl) dX5_takesBreak_82 rfl rfl ?_
        refine x_aload_n g 0 dX5_takesBreak_85 rfl rfl ?_
        refine x_get g fl_X5_77 wx_1 rfl dX5_takesBreak_86 ?_
        refine x_bipush g 6 dX5_takesBreak_89 (by decide) ?_
        obtain ⟨r6, hgr6, hf⟩ := obind hf
        refine x_callN g xl [.int (σ3.1 5 0 8), .int 6] [.int r5, .ref (Ad 1)] [.int r6, .int r5, .ref (Ad 1)] (c_X11_linkOf hA hgr6) mf_X11_linkOf sm_X11_linkOf nl_X5_83 (by decide) (by decide) rfl (Nat.le_of_ble_eq_true rfl) dX5_takesBreak_91 rfl rfl ?_
        obtain ⟨r7, hgr7, hf⟩ := obind hf
        refine x_callV (r := (RX5, TX5, 9)) g xl [.int r5, .int r6] [] [.int r7] (c_X5_anyNameable hA hgr7) mf_X5_anyNameable im_X5_anyNameable se_X5_anyNameable ml_X5_74 rfl wx_1 (by decide) (by decide) rfl (Nat.le_of_ble_eq_true rfl) dX5_takesBreak_94 rfl rfl ?_
        refine x_if_eq g 104 dX5_takesBreak_97 (by decide) hf (fun c97 hf => ?_) (fun c97 hf => ?_)
        · refine x_iconst g 0 dX5_takesBreak_104 (by decide) ?_
          cases hf
          exact x_zret g rfl (by decide) ho dX5_takesBreak_105
        · refine x_iconst g 1 dX5_takesBreak_100 (by decide) ?_
          refine x_goto g 105 dX5_takesBreak_101 (by decide) ?_
          cases hf
          exact x_zret g rfl (by decide) ho dX5_takesBreak_105
    · refine x_lkout g 106 dX5_takesBreak_5 (by decide) (by have e0 := tI n_5_0 (by decide : (0 : Int32).toInt = 0); have e1 := tI n_5_1 (by decide : (1 : Int32).toInt = 1); simp [Op.lookupswitch.offset, e0, Ne.symm e0, e1, Ne.symm e1]) (by decide) ?_
      refine x_aload_n g 0 dX5_takesBreak_106 rfl rfl ?_
      refine x_iload_n g 2 dX5_takesBreak_107 rfl rfl ?_
      obtain ⟨r8, hgr8, hf⟩ := obind hf
      refine x_callS g xl [.int p2] [.ref (Ad 1)] [.int r8, .ref (Ad 1)] (c_X5_portOf hA hgr8) mf_X5_portOf sm_X5_portOf ml_X5_87 (by decide) (by decide) rfl (Nat.le_of_ble_eq_true rfl) dX5_takesBreak_108 rfl rfl ?_
      obtain ⟨⟨σ10, r9⟩, hgr9, hf⟩ := obind hf
      refine x_callV (r := (RX5, TX5, 9)) g xl [.int r8] [] [.int r9] (c_X5_takesPort hA hgr9) mf_X5_takesPort im_X5_takesPort se_X5_takesPort ml_X5_90 rfl wx_1 (by decide) (by decide) rfl (Nat.le_of_ble_eq_true rfl) dX5_takesBreak_111 rfl rfl ?_
      have hb := isZ_and (chk_some hf).1
      replace hf := (chk_some hf).2
      cases hf
      exact x_zret g rfl hb ho dX5_takesBreak_114
/-! SlotChip$Page.takes(II)Z -/
def f_X5_takes (σ : St) (p1 : Int32) (p2 : Int32) : Option (St × Int32) :=
  if p1 = 0 then
    (bnd (si σ 5 0 1 (p2 - 48)) fun σ1 =>
    if (σ1.1 5 0 1) = 2 then
      some (σ1, 1)
    else
      (if (σ1.1 5 0 1) = 3 then
        some (σ1, 1)
      else
        some (σ1, 0)))
  else
    (if p1 = 1 then
      (if p2 = 120 then
        some (σ, 1)
      else
        some (σ, 0))
    else
      (if p1 = 2 then
        (bnd (si σ 5 0 2 (p2 - 48)) fun σ2 =>
        if (σ2.1 5 0 2) = 2 then
          some (σ2, 1)
        else
          (if (σ2.1 5 0 2) = 3 then
            some (σ2, 1)
          else
            some (σ2, 0)))
      else
        (if p1 = 3 then
          ((f_X5_layGrid σ).bind fun σ4 =>
          if p2 = 58 then
            some (σ4, 1)
          else
            some (σ4, 0))
        else
          (if p1 = 4 then
            (bnd (si σ 5 0 3 (p2 - 48)) fun σ5 =>
            if (σ5.1 5 0 3) = 1 then
              some (σ5, 1)
            else
              (if 4 ≤ (σ5.1 5 0 3) then
                (if (σ5.1 5 0 3) ≤ 9 then
                  some (σ5, 1)
                else
                  some (σ5, 0))
              else
                some (σ5, 0)))
          else
            (if (σ.1 5 0 3) = 1 then
              ((f_X5_takesZero σ p2).bind fun (σ7, r6) =>
              chk (isZ r6) (some (σ7, r6)))
            else
              ((f_X5_takesBreak σ p1 p2).bind fun (σ9, r8) =>
              chk (isZ r8) (some (σ9, r8))))))))
set_option maxHeartbeats 4000000 in
set_option maxRecDepth 100000 in
theorem c_X5_takes {l : Launch} {D : va_G} {cy : Nat → ClassId} {Ad : Nat → Nat} (hA : AdOK 58 Ad) {σ : St} {p1 : Int32} {p2 : Int32} {o : (St × Int32)} (hf : f_X5_takes σ p1 p2 = some o) : CT l (wX cy Ad) D cy (AdA 58 Ad) yX5_takes cX5_takes 3 (some .boolean) 4 [.ref (Ad 1), .int p1, .int p2] σ (o.1, (some (.int o.2))) := by
  refine CT.of mf_X5_takes (wX_D hA) (Nat.le_of_ble_eq_true rfl) ?_
  intro E xl g
  have ho : ((o.1, (some (.int o.2))) : St × Option Value) = (o.1, (some (.int o.2))) := rfl
  unfold f_X5_takes at hf
  show XJ E (wX cy Ad σ) 0 [(0, .ref (Ad 1)), (1, .int p1), (2, .int p2)] []
  refine x_iload_n g 1 dX5_takes_0 rfl rfl ?_
  refine sp hf (fun n_1_0 hf => ?_) (fun n_1_0 hf => ?_)
  · refine x_tin g 0 35 36 dX5_takes_1 n_1_0 (by decide) ?_
    refine x_aload_n g 0 dX5_takes_36 rfl rfl ?_
    refine x_iload_n g 2 dX5_takes_37 rfl rfl ?_
    refine x_bipush g 48 dX5_takes_38 (by decide) ?_
    refine x_isub g dX5_takes_40 ?_
    refine x_putB g tyX5 fl_X5_55 tyX5_ok nmX5 wx_1 rfl rfl rfl (Nat.le_of_ble_eq_true rfl) (sx_1_1 _) dX5_takes_41 hf (fun σ1 hf => ?_)
    refine x_aload_n g 0 dX5_takes_44 rfl rfl ?_
    refine x_get g fl_X5_55 wx_1 rfl dX5_takes_45 ?_
    refine x_iconst g 2 dX5_takes_48 (by decide) ?_
    refine x_icmp_eq g 60 dX5_takes_49 (by decide) hf (fun c49 hf => ?_) (fun c49 hf => ?_)
    · refine x_iconst g 1 dX5_takes_60 (by decide) ?_
      refine x_goto g 65 dX5_takes_61 (by decide) ?_
      cases hf
      exact x_zret g rfl (by decide) ho dX5_takes_65
    · refine x_aload_n g 0 dX5_takes_52 rfl rfl ?_
      refine x_get g fl_X5_55 wx_1 rfl dX5_takes_53 ?_
      refine x_iconst g 3 dX5_takes_56 (by decide) ?_
      refine x_icmp_ne g 64 dX5_takes_57 (by decide) hf (fun c57 hf => ?_) (fun c57 hf => ?_)
      · refine x_iconst g 1 dX5_takes_60 (by decide) ?_
        refine x_goto g 65 dX5_takes_61 (by decide) ?_
        cases hf
        exact x_zret g rfl (by decide) ho dX5_takes_65
      · refine x_iconst g 0 dX5_takes_64 (by decide) ?_
        cases hf
        exact x_zret g rfl (by decide) ho dX5_takes_65
  · refine sp hf (fun n_1_1 hf => ?_) (fun n_1_1 hf => ?_)
    · refine x_tin g 1 65 66 dX5_takes_1 n_1_1 (by decide) ?_
      refine x_iload_n g 2 dX5_takes_66 rfl rfl ?_
      refine x_bipush g 120 dX5_takes_67 (by decide) ?_
      refine x_icmp_ne g 76 dX5_takes_69 (by decide) hf (fun c69 hf => ?_) (fun c69 hf => ?_)
      · refine x_iconst g 1 dX5_takes_72 (by decide) ?_
        refine x_goto g 77 dX5_takes_73 (by decide) ?_
        cases hf
        exact x_zret g rfl (by decide) ho dX5_takes_77
      · refine x_iconst g 0 dX5_takes_76 (by decide) ?_
        cases hf
        exact x_zret g rfl (by decide) ho dX5_takes_77
    · refine sp hf (fun n_1_2 hf => ?_) (fun n_1_2 hf => ?_)
      · refine x_tin g 2 77 78 dX5_takes_1 n_1_2 (by decide) ?_
        refine x_aload_n g 0 dX5_takes_78 rfl rfl ?_
        refine x_iload_n g 2 dX5_takes_79 rfl rfl ?_
        refine x_bipush g 48 dX5_takes_80 (by decide) ?_
        refine x_isub g dX5_takes_82 ?_
        refine x_putB g tyX5 fl_X5_58 tyX5_ok nmX5 wx_1 rfl rfl rfl (Nat.le_of_ble_eq_true rfl) (sx_1_2 _) dX5_takes_83 hf (fun σ2 hf => ?_)
        refine x_aload_n g 0 dX5_takes_86 rfl rfl ?_
        refine x_get g fl_X5_58 wx_1 rfl dX5_takes_87 ?_
        refine x_iconst g 2 dX5_takes_90 (by decide) ?_
        refine x_icmp_eq g 102 dX5_takes_91 (by decide) hf (fun c91 hf => ?_) (fun c91 hf => ?_)
        · refine x_iconst g 1 dX5_takes_102 (by decide) ?_
          refine x_goto g 107 dX5_takes_103 (by decide) ?_
          cases hf
          exact x_zret g rfl (by decide) ho dX5_takes_107
        · refine x_aload_n g 0 dX5_takes_94 rfl rfl ?_
          refine x_get g fl_X5_58 wx_1 rfl dX5_takes_95 ?_
          refine x_iconst g 3 dX5_takes_98 (by decide) ?_
          refine x_icmp_ne g 106 dX5_takes_99 (by decide) hf (fun c99 hf => ?_) (fun c99 hf => ?_)
          · refine x_iconst g 1 dX5_takes_102 (by decide) ?_
            refine x_goto g 107 dX5_takes_103 (by decide) ?_
            cases hf
            exact x_zret g rfl (by decide) ho dX5_takes_107
          · refine x_iconst g 0 dX5_takes_106 (by decide) ?_
            cases hf
            exact x_zret g rfl (by decide) ho dX5_takes_107
      · refine sp hf (fun n_1_3 hf => ?_) (fun n_1_3 hf => ?_)
        · refine x_tin g 3 107 108 dX5_takes_1 n_1_3 (by decide) ?_
          refine x_aload_n g 0 dX5_takes_108 rfl rfl ?_
          obtain ⟨σ4, hgr3, hf⟩ := obind hf
          refine x_callV (r := (RX5, TX5, 9)) g xl [] [] [] (c_X5_layGrid hA hgr3) mf_X5_layGrid im_X5_layGrid se_X5_layGrid ml_X5_61 rfl wx_1 (by decide) (by decide) rfl (Nat.le_of_ble_eq_true rfl) dX5_takes_109 rfl rfl ?_
          refine x_iload_n g 2 dX5_takes_112 rfl rfl ?_
          refine x_bipush g 58 dX5_takes_113 (by decide) ?_
          refine x_icmp_ne g 122 dX5_takes_115 (by decide) hf (fun c115 hf => ?_) (fun c115 hf => ?_)
          · refine x_iconst g 1 dX5_takes_118 (by decide) ?_
            refine x_goto g 123 dX5_takes_119 (by decide) ?_
            cases hf
            exact x_zret g rfl (by decide) ho dX5_takes_123
          · refine x_iconst g 0 dX5_takes_122 (by decide) ?_
            cases hf
            exact x_zret g rfl (by decide) ho dX5_takes_123
        · refine sp hf (fun n_1_4 hf => ?_) (fun n_1_4 hf => ?_)
          · refine x_tin g 4 123 124 dX5_takes_1 n_1_4 (by decide) ?_
            refine x_aload_n g 0 dX5_takes_124 rfl rfl ?_
            refine x_iload_n g 2 dX5_takes_125 rfl rfl ?_
            refine x_bipush g 48 dX5_takes_126 (by decide) ?_
            refine x_isub g dX5_takes_128 ?_
            refine x_putB g tyX5 fl_X5_30 tyX5_ok nmX5 wx_1 rfl rfl rfl (Nat.le_of_ble_eq_true rfl) (sx_1_3 _) dX5_takes_129 hf (fun σ5 hf => ?_)
            refine x_aload_n g 0 dX5_takes_132 rfl rfl ?_
            refine x_get g fl_X5_30 wx_1 rfl dX5_takes_133 ?_
            refine x_iconst g 1 dX5_takes_136 (by decide) ?_
            refine x_icmp_eq g 157 dX5_takes_137 (by decide) hf (fun c137 hf => ?_) (fun c137 hf => ?_)
            · refine x_iconst g 1 dX5_takes_157 (by decide) ?_
              refine x_goto g 162 dX5_takes_158 (by decide) ?_
              cases hf
              exact x_zret g rfl (by decide) ho dX5_takes_162
            · refine x_aload_n g 0 dX5_takes_140 rfl rfl ?_
              refine x_get g fl_X5_30 wx_1 rfl dX5_takes_141 ?_
              refine x_iconst g 4 dX5_takes_144 (by decide) ?_
              refine x_icmp_lt g 161 dX5_takes_145 (by decide) hf (fun c145 hf => ?_) (fun c145 hf => ?_)
              · refine x_aload_n g 0 dX5_takes_148 rfl rfl ?_
                refine x_get g fl_X5_30 wx_1 rfl dX5_takes_149 ?_
                refine x_bipush g 9 dX5_takes_152 (by decide) ?_
                refine x_icmp_gt g 161 dX5_takes_154 (by decide) hf (fun c154 hf => ?_) (fun c154 hf => ?_)
                · refine x_iconst g 1 dX5_takes_157 (by decide) ?_
                  refine x_goto g 162 dX5_takes_158 (by decide) ?_
                  cases hf
                  exact x_zret g rfl (by decide) ho dX5_takes_162
                · refine x_iconst g 0 dX5_takes_161 (by decide) ?_
                  cases hf
                  exact x_zret g rfl (by decide) ho dX5_takes_162
              · refine x_iconst g 0 dX5_takes_161 (by decide) ?_
                cases hf
                exact x_zret g rfl (by decide) ho dX5_takes_162
          · refine x_tout g 163 dX5_takes_1 (by have e0 := tI n_1_0 (by decide : (0 : Int32).toInt = 0); have e1 := tI n_1_1 (by decide : (1 : Int32).toInt = 1); have e2 := tI n_1_2 (by decide : (2 : Int32).toInt = 2); have e3 := tI n_1_3 (by decide : (3 : Int32).toInt = 3); have e4 := tI n_1_4 (by decide : (4 : Int32).toInt = 4); omega) (by decide) ?_
            refine x_aload_n g 0 dX5_takes_163 rfl rfl ?_
            refine x_get g fl_X5_30 wx_1 rfl dX5_takes_164 ?_
            refine x_iconst g 1 dX5_takes_167 (by decide) ?_
            refine x_icmp_ne g 179 dX5_takes_168 (by decide) hf (fun c168 hf => ?_) (fun c168 hf => ?_)
            · refine x_aload_n g 0 dX5_takes_171 rfl rfl ?_
              refine x_iload_n g 2 dX5_takes_172 rfl rfl ?_
              obtain ⟨⟨σ7, r6⟩, hgr6, hf⟩ := obind hf
              refine x_callV (r := (RX5, TX5, 9)) g xl [.int p2] [] [.int r6] (c_X5_takesZero hA hgr6) mf_X5_takesZero im_X5_takesZero se_X5_takesZero ml_X5_64 rfl wx_1 (by decide) (by decide) rfl (Nat.le_of_ble_eq_true rfl) dX5_takes_173 rfl rfl ?_
              refine x_goto g 185 dX5_takes_176 (by decide) ?_
              have hb := isZ_and (chk_some hf).1
              replace hf := (chk_some hf).2
              cases hf
              exact x_zret g rfl hb ho dX5_takes_185
            · refine x_aload_n g 0 dX5_takes_179 rfl rfl ?_
              refine x_iload_n g 1 dX5_takes_180 rfl rfl ?_
              refine x_iload_n g 2 dX5_takes_181 rfl rfl ?_
              obtain ⟨⟨σ9, r8⟩, hgr8, hf⟩ := obind hf
              refine x_callV (r := (RX5, TX5, 9)) g xl [.int p1, .int p2] [] [.int r8] (c_X5_takesBreak hA hgr8) mf_X5_takesBreak im_X5_takesBreak se_X5_takesBreak ml_X5_67 rfl wx_1 (by decide) (by decide) rfl (Nat.le_of_ble_eq_true rfl) dX5_takes_182 rfl rfl ?_
              have hb := isZ_and (chk_some hf).1
              replace hf := (chk_some hf).2
              cases hf
              exact x_zret g rfl hb ho dX5_takes_185
/-! SlotChip$Page.read()I -/
def f_X5_read_L7b (K7 : St → Int32 → Option (St × Int32)) (σ : St) (v1 : Int32) : Option (St × Int32) :=
  if v1 < (σ.1 5 0 0) then
    ((f_X5_codeAt σ v1).bind fun r2 =>
    (f_X5_takes σ v1 r2).bind fun (σ4, r3) =>
    if r3 = 0 then
      (if v1 = (σ4.1 5 0 0) then
        (if 4 ≤ (σ4.1 5 0 3) then
          ((f_X5_partOfBreak σ4 v1).bind fun r5 =>
          if r5 = 0 then
            (bnd (si σ4 5 0 4 1) fun σ6 =>
            some (σ6, v1))
          else
            (bnd (si σ4 5 0 4 0) fun σ7 =>
            some (σ7, v1)))
        else
          (bnd (si σ4 5 0 4 0) fun σ8 =>
          some (σ8, v1)))
      else
        (bnd (si σ4 5 0 4 0) fun σ9 =>
        some (σ9, v1)))
    else
      K7 σ4 (v1 + 1))
  else
    (if v1 = (σ.1 5 0 0) then
      (if 4 ≤ (σ.1 5 0 3) then
        ((f_X5_partOfBreak σ v1).bind fun r10 =>
        if r10 = 0 then
          (bnd (si σ 5 0 4 1) fun σ11 =>
          some (σ11, v1))
        else
          (bnd (si σ 5 0 4 0) fun σ12 =>
          some (σ12, v1)))
      else
        (bnd (si σ 5 0 4 0) fun σ13 =>
        some (σ13, v1)))
    else
      (bnd (si σ 5 0 4 0) fun σ14 =>
      some (σ14, v1)))
def f_X5_read_L7 : Nat → St → Int32 → Option (St × Int32)
  | 0 => fun _ _ => none
  | n + 1 => f_X5_read_L7b (f_X5_read_L7 n)
def f_X5_read (σ : St) : Option (St × Int32) :=
  bnd (si σ 5 0 3 0) fun σ1 =>
  f_X5_read_L7 FU σ1 0
set_option maxHeartbeats 4000000 in
set_option maxRecDepth 100000 in
theorem l_X5_read_L7 {E : EV} {l : Launch} {D : va_G} {cy : Nat → ClassId} {Ad : Nat → Nat} {out : St × Option Value} {o : (St × Int32)} (hA : AdOK 58 Ad) (xl : XL E l D (AdA 58 Ad)) (g : XG E (wX cy Ad) cy cX5_read RX5 2 5 (some .int) out) (ho : out = (o.1, (some (.int o.2)))) : ∀ (n : Nat) (σ : St) (v1 : Int32), f_X5_read_L7 n σ v1 = some o → XJ E (wX cy Ad σ) 7 [(0, .ref (Ad 1)), (1, .int v1)] [] := by
  intro n
  induction n with
  | zero => intro _ _ hf; cases hf
  | succ n ih7 =>
    intro σ v1 hf
    replace hf : f_X5_read_L7b (f_X5_read_L7 n) σ v1 = some o := hf
    unfold f_X5_read_L7b at hf
    refine x_iload_n g 1 dX5_read_7 rfl rfl ?_
    refine x_aload_n g 0 dX5_read_8 rfl rfl ?_
    refine x_get g fl_X5_26 wx_1 rfl dX5_read_9 ?_
    refine x_icmp_ge g 34 dX5_read_12 (by decide) hf (fun c12 hf => ?_) (fun c12 hf => ?_)
    · refine x_aload_n g 0 dX5_read_15 rfl rfl ?_
      refine x_iload_n g 1 dX5_read_16 rfl rfl ?_
      refine x_aload_n g 0 dX5_read_17 rfl rfl ?_
      refine x_iload_n g 1 dX5_read_18 rfl rfl ?_
      obtain ⟨r2, hgr2, hf⟩ := obind hf
      refine x_callV (r := (RX5, TX5, 9)) g xl [.int v1] [.int v1, .ref (Ad 1)] [.int r2, .int v1, .ref (Ad 1)] (c_X5_codeAt hA hgr2) mf_X5_codeAt im_X5_codeAt se_X5_codeAt ml_X5_33 rfl wx_1 (by decide) (by decide) rfl (Nat.le_of_ble_eq_true rfl) dX5_read_19 rfl rfl ?_
      obtain ⟨⟨σ4, r3⟩, hgr3, hf⟩ := obind hf
      refine x_callV (r := (RX5, TX5, 9)) g xl [.int v1, .int r2] [] [.int r3] (c_X5_takes hA hgr3) mf_X5_takes im_X5_takes se_X5_takes ml_X5_37 rfl wx_1 (by decide) (by decide) rfl (Nat.le_of_ble_eq_true rfl) dX5_read_22 rfl rfl ?_
      refine x_if_eq g 34 dX5_read_25 (by decide) hf (fun c25 hf => ?_) (fun c25 hf => ?_)
      · refine x_aload_n g 0 dX5_read_34 rfl rfl ?_
        refine x_iload_n g 1 dX5_read_35 rfl rfl ?_
        refine x_aload_n g 0 dX5_read_36 rfl rfl ?_
        refine x_get g fl_X5_26 wx_1 rfl dX5_read_37 ?_
        refine x_icmp_ne g 63 dX5_read_40 (by decide) hf (fun c40 hf => ?_) (fun c40 hf => ?_)
        · refine x_aload_n g 0 dX5_read_43 rfl rfl ?_
          refine x_get g fl_X5_30 wx_1 rfl dX5_read_44 ?_
          refine x_iconst g 4 dX5_read_47 (by decide) ?_
          refine x_icmp_lt g 63 dX5_read_48 (by decide) hf (fun c48 hf => ?_) (fun c48 hf => ?_)
          · refine x_aload_n g 0 dX5_read_51 rfl rfl ?_
            refine x_iload_n g 1 dX5_read_52 rfl rfl ?_
            obtain ⟨r5, hgr5, hf⟩ := obind hf
            refine x_callV (r := (RX5, TX5, 9)) g xl [.int v1] [.ref (Ad 1)] [.int r5, .ref (Ad 1)] (c_X5_partOfBreak hA hgr5) mf_X5_partOfBreak im_X5_partOfBreak se_X5_partOfBreak ml_X5_41 rfl wx_1 (by decide) (by decide) rfl (Nat.le_of_ble_eq_true rfl) dX5_read_53 rfl rfl ?_
            refine x_if_ne g 63 dX5_read_56 (by decide) hf (fun c56 hf => ?_) (fun c56 hf => ?_)
            · refine x_iconst g 1 dX5_read_59 (by decide) ?_
              refine x_goto g 64 dX5_read_60 (by decide) ?_
              refine x_putB g tyX5 fl_X5_44 tyX5_ok nmX5 wx_1 rfl rfl rfl (Nat.le_of_ble_eq_true rfl) (sx_1_4 _) dX5_read_64 hf (fun σ6 hf => ?_)
              refine x_iload_n g 1 dX5_read_67 rfl rfl ?_
              cases hf
              exact x_iret g rfl ho dX5_read_68
            · refine x_iconst g 0 dX5_read_63 (by decide) ?_
              refine x_putB g tyX5 fl_X5_44 tyX5_ok nmX5 wx_1 rfl rfl rfl (Nat.le_of_ble_eq_true rfl) (sx_1_4 _) dX5_read_64 hf (fun σ7 hf => ?_)
              refine x_iload_n g 1 dX5_read_67 rfl rfl ?_
              cases hf
              exact x_iret g rfl ho dX5_read_68
          · refine x_iconst g 0 dX5_read_63 (by decide) ?_
            refine x_putB g tyX5 fl_X5_44 tyX5_ok nmX5 wx_1 rfl rfl rfl (Nat.le_of_ble_eq_true rfl) (sx_1_4 _) dX5_read_64 hf (fun σ8 hf => ?_)
            refine x_iload_n g 1 dX5_read_67 rfl rfl ?_
            cases hf
            exact x_iret g rfl ho dX5_read_68
        · refine x_iconst g 0 dX5_read_63 (by decide) ?_
          refine x_putB g tyX5 fl_X5_44 tyX5_ok nmX5 wx_1 rfl rfl rfl (Nat.le_of_ble_eq_true rfl) (sx_1_4 _) dX5_read_64 hf (fun σ9 hf => ?_)
          refine x_iload_n g 1 dX5_read_67 rfl rfl ?_
          cases hf
          exact x_iret g rfl ho dX5_read_68
      · refine x_iinc g 1 (v1 + 1) (lv' := [(1, .int (v1 + 1)), (0, .ref (Ad 1))]) dX5_read_28 rfl (by rfl) (by decide) rfl ?_
        refine x_goto g 7 dX5_read_31 (by decide) ?_
        exact x_sub [1, 0] rfl (ih7 _ _ hf)
    · refine x_aload_n g 0 dX5_read_34 rfl rfl ?_
      refine x_iload_n g 1 dX5_read_35 rfl rfl ?_
      refine x_aload_n g 0 dX5_read_36 rfl rfl ?_
      refine x_get g fl_X5_26 wx_1 rfl dX5_read_37 ?_
      refine x_icmp_ne g 63 dX5_read_40 (by decide) hf (fun c40 hf => ?_) (fun c40 hf => ?_)
      · refine x_aload_n g 0 dX5_read_43 rfl rfl ?_
        refine x_get g fl_X5_30 wx_1 rfl dX5_read_44 ?_
        refine x_iconst g 4 dX5_read_47 (by decide) ?_
        refine x_icmp_lt g 63 dX5_read_48 (by decide) hf (fun c48 hf => ?_) (fun c48 hf => ?_)
        · refine x_aload_n g 0 dX5_read_51 rfl rfl ?_
          refine x_iload_n g 1 dX5_read_52 rfl rfl ?_
          obtain ⟨r10, hgr10, hf⟩ := obind hf
          refine x_callV (r := (RX5, TX5, 9)) g xl [.int v1] [.ref (Ad 1)] [.int r10, .ref (Ad 1)] (c_X5_partOfBreak hA hgr10) mf_X5_partOfBreak im_X5_partOfBreak se_X5_partOfBreak ml_X5_41 rfl wx_1 (by decide) (by decide) rfl (Nat.le_of_ble_eq_true rfl) dX5_read_53 rfl rfl ?_
          refine x_if_ne g 63 dX5_read_56 (by decide) hf (fun c56 hf => ?_) (fun c56 hf => ?_)
          · refine x_iconst g 1 dX5_read_59 (by decide) ?_
            refine x_goto g 64 dX5_read_60 (by decide) ?_
            refine x_putB g tyX5 fl_X5_44 tyX5_ok nmX5 wx_1 rfl rfl rfl (Nat.le_of_ble_eq_true rfl) (sx_1_4 _) dX5_read_64 hf (fun σ11 hf => ?_)
            refine x_iload_n g 1 dX5_read_67 rfl rfl ?_
            cases hf
            exact x_iret g rfl ho dX5_read_68
          · refine x_iconst g 0 dX5_read_63 (by decide) ?_
            refine x_putB g tyX5 fl_X5_44 tyX5_ok nmX5 wx_1 rfl rfl rfl (Nat.le_of_ble_eq_true rfl) (sx_1_4 _) dX5_read_64 hf (fun σ12 hf => ?_)
            refine x_iload_n g 1 dX5_read_67 rfl rfl ?_
            cases hf
            exact x_iret g rfl ho dX5_read_68
        · refine x_iconst g 0 dX5_read_63 (by decide) ?_
          refine x_putB g tyX5 fl_X5_44 tyX5_ok nmX5 wx_1 rfl rfl rfl (Nat.le_of_ble_eq_true rfl) (sx_1_4 _) dX5_read_64 hf (fun σ13 hf => ?_)
          refine x_iload_n g 1 dX5_read_67 rfl rfl ?_
          cases hf
          exact x_iret g rfl ho dX5_read_68
      · refine x_iconst g 0 dX5_read_63 (by decide) ?_
        refine x_putB g tyX5 fl_X5_44 tyX5_ok nmX5 wx_1 rfl rfl rfl (Nat.le_of_ble_eq_true rfl) (sx_1_4 _) dX5_read_64 hf (fun σ14 hf => ?_)
        refine x_iload_n g 1 dX5_read_67 rfl rfl ?_
        cases hf
        exact x_iret g rfl ho dX5_read_68
set_option maxHeartbeats 4000000 in
set_option maxRecDepth 100000 in
theorem c_X5_read {l : Launch} {D : va_G} {cy : Nat → ClassId} {Ad : Nat → Nat} (hA : AdOK 58 Ad) {σ : St} {o : (St × Int32)} (hf : f_X5_read σ = some o) : CT l (wX cy Ad) D cy (AdA 58 Ad) yX5_read cX5_read 2 (some .int) 5 [.ref (Ad 1)] σ (o.1, (some (.int o.2))) := by
  refine CT.of mf_X5_read (wX_D hA) (Nat.le_of_ble_eq_true rfl) ?_
  intro E xl g
  have ho : ((o.1, (some (.int o.2))) : St × Option Value) = (o.1, (some (.int o.2))) := rfl
  unfold f_X5_read at hf
  show XJ E (wX cy Ad σ) 0 [(0, .ref (Ad 1))] []
  refine x_aload_n g 0 dX5_read_0 rfl rfl ?_
  refine x_iconst g 0 dX5_read_1 (by decide) ?_
  refine x_putB g tyX5 fl_X5_30 tyX5_ok nmX5 wx_1 rfl rfl rfl (Nat.le_of_ble_eq_true rfl) (sx_1_3 _) dX5_read_2 hf (fun σ1 hf => ?_)
  refine x_iconst g 0 dX5_read_5 (by decide) ?_
  refine x_istore_n (lv' := [(1, .int 0), (0, .ref (Ad 1))]) g dX5_read_6 rfl (by decide) rfl ?_
  exact x_sub [1, 0] rfl (l_X5_read_L7 hA xl g ho FU _ _ hf)
/-! SlotChip.fault()I -/
def f_X11_fault (σ : St) : Option (St × Int32) :=
  (f_X5_read σ).bind fun (σ2, r1) =>
  some (σ2, r1)
set_option maxHeartbeats 4000000 in
set_option maxRecDepth 100000 in
theorem c_X11_fault {l : Launch} {D : va_G} {cy : Nat → ClassId} {Ad : Nat → Nat} (hA : AdOK 58 Ad) {σ : St} {o : (St × Int32)} (hf : f_X11_fault σ = some o) : CT l (wX cy Ad) D cy (AdA 58 Ad) yX11_fault cX11_fault 1 (some .int) 6 [.ref (Ad 0)] σ (o.1, (some (.int o.2))) := by
  refine CT.of mf_X11_fault (wX_D hA) (Nat.le_of_ble_eq_true rfl) ?_
  intro E xl g
  have ho : ((o.1, (some (.int o.2))) : St × Option Value) = (o.1, (some (.int o.2))) := rfl
  unfold f_X11_fault at hf
  show XJ E (wX cy Ad σ) 0 [(0, .ref (Ad 0))] []
  refine x_aload_n g 0 dX11_fault_0 rfl rfl ?_
  refine x_get g fl_X11_10 wx_0 rfl dX11_fault_1 ?_
  obtain ⟨⟨σ2, r1⟩, hgr1, hf⟩ := obind hf
  refine x_callV (r := (RX5, TX5, 9)) g xl [] [] [.int r1] (c_X5_read hA hgr1) mf_X5_read im_X5_read se_X5_read ml_X11_66 rfl wx_1 (by decide) (by decide) rfl (Nat.le_of_ble_eq_true rfl) dX11_fault_4 rfl rfl ?_
  cases hf
  exact x_iret g rfl ho dX11_fault_7
/-! SlotChip$Page.namesBroken(I)Z -/
def f_X5_namesBroken (σ : St) (p1 : Int32) : Option Int32 :=
  (f_X4_hasInnerLink σ 0 p1).bind fun r1 =>
  if r1 = 0 then
    some 0
  else
    ((f_X11_isLinkNumber p1).bind fun r2 =>
    if r2 = 0 then
      some 0
    else
      (chk (inb p1 54) (
        if (σ.1 13 0 (Int32.toNatClampNeg p1)) = 0 then
          some 1
        else
          some 0)))
set_option maxHeartbeats 4000000 in
set_option maxRecDepth 100000 in
theorem c_X5_namesBroken {l : Launch} {D : va_G} {cy : Nat → ClassId} {Ad : Nat → Nat} (hA : AdOK 58 Ad) {σ : St} {p1 : Int32} {o : Int32} (hf : f_X5_namesBroken σ p1 = some o) : CT l (wX cy Ad) D cy (AdA 58 Ad) yX5_namesBroken cX5_namesBroken 2 (some .boolean) 3 [.ref (Ad 1), .int p1] σ (σ, (some (.int o))) := by
  refine CT.of mf_X5_namesBroken (wX_D hA) (Nat.le_of_ble_eq_true rfl) ?_
  intro E xl g
  have ho : ((σ, (some (.int o))) : St × Option Value) = (σ, (some (.int o))) := rfl
  unfold f_X5_namesBroken at hf
  show XJ E (wX cy Ad σ) 0 [(0, .ref (Ad 1)), (1, .int p1)] []
  refine x_aload_n g 0 dX5_namesBroken_0 rfl rfl ?_
  refine x_get g fl_X5_18 wx_1 rfl dX5_namesBroken_1 ?_
  refine x_iload_n g 1 dX5_namesBroken_4 rfl rfl ?_
  obtain ⟨r1, hgr1, hf⟩ := obind hf
  refine x_callV (r := (RX4, TX4, 3)) g xl [.int p1] [] [.int r1] (c_X4_hasInnerLink hA (by decide) hgr1) mf_X4_hasInnerLink im_X4_hasInnerLink se_X4_hasInnerLink ml_X5_48 rfl wx_3 (by decide) (by decide) rfl (Nat.le_of_ble_eq_true rfl) dX5_namesBroken_5 rfl rfl ?_
  refine x_if_eq g 31 dX5_namesBroken_8 (by decide) hf (fun c8 hf => ?_) (fun c8 hf => ?_)
  · refine x_iconst g 0 dX5_namesBroken_31 (by decide) ?_
    cases hf
    exact x_zret g rfl (by decide) ho dX5_namesBroken_32
  · refine x_iload_n g 1 dX5_namesBroken_11 rfl rfl ?_
    obtain ⟨r2, hgr2, hf⟩ := obind hf
    refine x_callN g xl [.int p1] [] [.int r2] (c_X11_isLinkNumber hA hgr2) mf_X11_isLinkNumber sm_X11_isLinkNumber nl_X5_52 (by decide) (by decide) rfl (Nat.le_of_ble_eq_true rfl) dX5_namesBroken_12 rfl rfl ?_
    refine x_if_eq g 31 dX5_namesBroken_15 (by decide) hf (fun c15 hf => ?_) (fun c15 hf => ?_)
    · refine x_iconst g 0 dX5_namesBroken_31 (by decide) ?_
      cases hf
      exact x_zret g rfl (by decide) ho dX5_namesBroken_32
    · refine x_aload_n g 0 dX5_namesBroken_18 rfl rfl ?_
      refine x_get g fl_X5_22 wx_1 rfl dX5_namesBroken_19 ?_
      refine x_iload_n g 1 dX5_namesBroken_22 rfl rfl ?_
      refine x_zald g wx_5 dX5_namesBroken_23 hf (fun hf => ?_)
      refine x_if_ne g 31 dX5_namesBroken_24 (by decide) hf (fun c24 hf => ?_) (fun c24 hf => ?_)
      · refine x_iconst g 1 dX5_namesBroken_27 (by decide) ?_
        refine x_goto g 32 dX5_namesBroken_28 (by decide) ?_
        cases hf
        exact x_zret g rfl (by decide) ho dX5_namesBroken_32
      · refine x_iconst g 0 dX5_namesBroken_31 (by decide) ?_
        cases hf
        exact x_zret g rfl (by decide) ho dX5_namesBroken_32
/-! SlotChip$Board.set(LSlotChip$Page;)V -/
def f_X1_set_L62b (K62 : St → Int32 → Option St) (σ : St) (v2 : Int32) : Option St :=
  if v2 < 540 then
    (chk (inb v2 540) (
      bnd (si σ 16 0 (Int32.toNatClampNeg v2) (-1)) fun σ8 =>
      K62 σ8 (v2 + 1)))
  else
    some σ
def f_X1_set_L62 : Nat → St → Int32 → Option St
  | 0 => fun _ _ => none
  | n + 1 => f_X1_set_L62b (f_X1_set_L62 n)
def f_X1_set_L30b (K30 : St → Int32 → Option St) (σ : St) (v2 : Int32) : Option St :=
  if v2 < 54 then
    ((f_X5_namesBroken σ v2).bind fun r5 =>
    chk (inb v2 54) (
      bnd (si σ 14 0 (Int32.toNatClampNeg v2) (r5 &&& 1)) fun σ6 =>
      chk (inb v2 54) (
        bnd (si σ6 15 0 (Int32.toNatClampNeg v2) 0) fun σ7 =>
        K30 σ7 (v2 + 1))))
  else
    f_X1_set_L62 FU σ 0
def f_X1_set_L30 : Nat → St → Int32 → Option St
  | 0 => fun _ _ => none
  | n + 1 => f_X1_set_L30b (f_X1_set_L30 n)
def f_X1_set (σ : St) : Option St :=
  (f_X4_set σ 1 (σ.1 5 0 1) (σ.1 5 0 2)).bind fun σ2 =>
  bnd (si σ2 1 0 1 (σ2.1 5 0 3)) fun σ3 =>
  bnd (si σ3 1 0 2 0) fun σ4 =>
  f_X1_set_L30 FU σ4 0
set_option maxHeartbeats 4000000 in
set_option maxRecDepth 100000 in
theorem l_X1_set_L62 {E : EV} {l : Launch} {D : va_G} {cy : Nat → ClassId} {Ad : Nat → Nat} {out : St × Option Value} {o : St} (hA : AdOK 58 Ad) (xl : XL E l D (AdA 58 Ad)) (g : XG E (wX cy Ad) cy cX1_set RX1 3 4 none out) (ho : out = (o, none)) : ∀ (n : Nat) (σ : St) (v2 : Int32), f_X1_set_L62 n σ v2 = some o → XJ E (wX cy Ad σ) 62 [(0, .ref (Ad 6)), (2, .int v2)] [] := by
  intro n
  induction n with
  | zero => intro _ _ hf; cases hf
  | succ n ih62 =>
    intro σ v2 hf
    replace hf : f_X1_set_L62b (f_X1_set_L62 n) σ v2 = some o := hf
    unfold f_X1_set_L62b at hf
    refine x_iload_n g 1 dX1_set_62 rfl rfl ?_
    refine x_sipush g 540 dX1_set_63 (by decide) ?_
    refine x_icmp_ge g 82 dX1_set_66 (by decide) hf (fun c66 hf => ?_) (fun c66 hf => ?_)
    · refine x_aload_n g 0 dX1_set_69 rfl rfl ?_
      refine x_get g fl_X1_26 wx_6 rfl dX1_set_70 ?_
      refine x_iload_n g 1 dX1_set_73 rfl rfl ?_
      refine x_iconst g (-1) dX1_set_74 (by decide) ?_
      refine x_iastB g wx_11 (sx_11 _ _) dX1_set_75 hf (fun σ8 hf => ?_)
      refine x_iinc g 1 (v2 + 1) (lv' := [(2, .int (v2 + 1)), (0, .ref (Ad 6))]) dX1_set_76 rfl (by rfl) (by decide) rfl ?_
      refine x_goto g 62 dX1_set_79 (by decide) ?_
      exact x_sub [1, 0] rfl (ih62 _ _ hf)
    · cases hf
      exact x_vret g rfl ho dX1_set_82
set_option maxHeartbeats 4000000 in
set_option maxRecDepth 100000 in
theorem l_X1_set_L30 {E : EV} {l : Launch} {D : va_G} {cy : Nat → ClassId} {Ad : Nat → Nat} {out : St × Option Value} {o : St} (hA : AdOK 58 Ad) (xl : XL E l D (AdA 58 Ad)) (g : XG E (wX cy Ad) cy cX1_set RX1 3 4 none out) (ho : out = (o, none)) : ∀ (n : Nat) (σ : St) (v2 : Int32), f_X1_set_L30 n σ v2 = some o → XJ E (wX cy Ad σ) 30 [(0, .ref (Ad 6)), (1, .ref (Ad 1)), (2, .int v2)] [] := by
  intro n
  induction n with
  | zero => intro _ _ hf; cases hf
  | succ n ih30 =>
    intro σ v2 hf
    replace hf : f_X1_set_L30b (f_X1_set_L30 n) σ v2 = some o := hf
    unfold f_X1_set_L30b at hf
    refine x_iload_n g 2 dX1_set_30 rfl rfl ?_
    refine x_bipush g 54 dX1_set_31 (by decide) ?_
    refine x_icmp_ge g 60 dX1_set_33 (by decide) hf (fun c33 hf => ?_) (fun c33 hf => ?_)
    · refine x_aload_n g 0 dX1_set_36 rfl rfl ?_
      refine x_get g fl_X1_18 wx_6 rfl dX1_set_37 ?_
      refine x_iload_n g 2 dX1_set_40 rfl rfl ?_
      refine x_aload_n g 1 dX1_set_41 rfl rfl ?_
      refine x_iload_n g 2 dX1_set_42 rfl rfl ?_
      obtain ⟨r5, hgr5, hf⟩ := obind hf
      refine x_callV (r := (RX5, TX5, 9)) g xl [.int v2] [.int v2, .ref (Ad 9)] [.int r5, .int v2, .ref (Ad 9)] (c_X5_namesBroken hA hgr5) mf_X5_namesBroken im_X5_namesBroken se_X5_namesBroken ml_X1_49 rfl wx_1 (by decide) (by decide) rfl (Nat.le_of_ble_eq_true rfl) dX1_set_43 rfl rfl ?_
      refine x_zastB g (r5 &&& 1) rfl wx_9 (sx_9 _ _) dX1_set_46 hf (fun σ6 hf => ?_)
      refine x_aload_n g 0 dX1_set_47 rfl rfl ?_
      refine x_get g fl_X1_22 wx_6 rfl dX1_set_48 ?_
      refine x_iload_n g 2 dX1_set_51 rfl rfl ?_
      refine x_iconst g 0 dX1_set_52 (by decide) ?_
      refine x_iastB g wx_10 (sx_10 _ _) dX1_set_53 hf (fun σ7 hf => ?_)
      refine x_iinc g 2 (v2 + 1) (lv' := [(2, .int (v2 + 1)), (0, .ref (Ad 6)), (1, .ref (Ad 1))]) dX1_set_54 rfl (by rfl) (by decide) rfl ?_
      refine x_goto g 30 dX1_set_57 (by decide) ?_
      exact x_sub [1, 2, 0] rfl (ih30 _ _ hf)
    · refine x_iconst g 0 dX1_set_60 (by decide) ?_
      refine x_istore_n (lv' := [(2, .int 0), (0, .ref (Ad 6)), (1, .ref (Ad 1))]) g dX1_set_61 rfl (by decide) rfl ?_
      exact x_sub [1, 0] rfl (l_X1_set_L62 hA xl g ho FU _ _ hf)
set_option maxHeartbeats 4000000 in
set_option maxRecDepth 100000 in
theorem c_X1_set {l : Launch} {D : va_G} {cy : Nat → ClassId} {Ad : Nat → Nat} (hA : AdOK 58 Ad) {σ : St} {o : St} (hf : f_X1_set σ = some o) : CT l (wX cy Ad) D cy (AdA 58 Ad) yX1_set cX1_set 3 none 4 [.ref (Ad 6), .ref (Ad 1)] σ (o, none) := by
  refine CT.of mf_X1_set (wX_D hA) (Nat.le_of_ble_eq_true rfl) ?_
  intro E xl g
  have ho : ((o, none) : St × Option Value) = (o, none) := rfl
  unfold f_X1_set at hf
  show XJ E (wX cy Ad σ) 0 [(0, .ref (Ad 6)), (1, .ref (Ad 1))] []
  refine x_aload_n g 0 dX1_set_0 rfl rfl ?_
  refine x_get g fl_X1_12 wx_6 rfl dX1_set_1 ?_
  refine x_aload_n g 1 dX1_set_4 rfl rfl ?_
  refine x_get g fl_X1_29 wx_1 rfl dX1_set_5 ?_
  refine x_aload_n g 1 dX1_set_8 rfl rfl ?_
  refine x_get g fl_X1_35 wx_1 rfl dX1_set_9 ?_
  obtain ⟨σ2, hgr1, hf⟩ := obind hf
  refine x_callV (r := (RX4, TX4, 3)) g xl [.int (σ.1 5 0 1), .int (σ.1 5 0 2)] [] [] (c_X4_set hA (by decide) hgr1) mf_X4_set im_X4_set se_X4_set ml_X1_38 rfl wx_7 (by decide) (by decide) rfl (Nat.le_of_ble_eq_true rfl) dX1_set_12 rfl rfl ?_
  refine x_aload_n g 0 dX1_set_15 rfl rfl ?_
  refine x_aload_n g 1 dX1_set_16 rfl rfl ?_
  refine x_get g fl_X1_42 wx_1 rfl dX1_set_17 ?_
  refine x_putB g tyX1 fl_X1_45 tyX1_ok nmX1 wx_6 rfl rfl rfl (Nat.le_of_ble_eq_true rfl) (sx_6_1 _) dX1_set_20 hf (fun σ3 hf => ?_)
  refine x_aload_n g 0 dX1_set_23 rfl rfl ?_
  refine x_iconst g 0 dX1_set_24 (by decide) ?_
  refine x_putB g tyX1 fl_X1_46 tyX1_ok nmX1 wx_6 rfl rfl rfl (Nat.le_of_ble_eq_true rfl) (sx_6_2 _) dX1_set_25 hf (fun σ4 hf => ?_)
  refine x_iconst g 0 dX1_set_28 (by decide) ?_
  refine x_istore_n (lv' := [(2, .int 0), (0, .ref (Ad 6)), (1, .ref (Ad 1))]) g dX1_set_29 rfl (by decide) rfl ?_
  exact x_sub [1, 2, 0] rfl (l_X1_set_L30 hA xl g ho FU _ _ hf)
/-! SlotChip$Circuits.clear()V -/
def f_X3_clear_L2b (K2 : St → Int32 → Option St) (σ : St) (v1 : Int32) : Option St :=
  if v1 < 8 then
    (chk (inb v1 8) (
      bnd (si σ 2 (Int32.toNatClampNeg v1) 1 0) fun σ2 =>
      K2 σ2 (v1 + 1)))
  else
    some σ
def f_X3_clear_L2 : Nat → St → Int32 → Option St
  | 0 => fun _ _ => none
  | n + 1 => f_X3_clear_L2b (f_X3_clear_L2 n)
def f_X3_clear (σ : St) : Option St :=
  f_X3_clear_L2 FU σ 0
set_option maxHeartbeats 4000000 in
set_option maxRecDepth 100000 in
theorem l_X3_clear_L2 {E : EV} {l : Launch} {D : va_G} {cy : Nat → ClassId} {Ad : Nat → Nat} {out : St × Option Value} {o : St} (hA : AdOK 58 Ad) (xl : XL E l D (AdA 58 Ad)) (g : XG E (wX cy Ad) cy cX3_clear RX3 2 0 none out) (ho : out = (o, none)) : ∀ (n : Nat) (σ : St) (v1 : Int32), f_X3_clear_L2 n σ v1 = some o → XJ E (wX cy Ad σ) 2 [(0, .ref (Ad 12)), (1, .int v1)] [] := by
  intro n
  induction n with
  | zero => intro _ _ hf; cases hf
  | succ n ih2 =>
    intro σ v1 hf
    replace hf : f_X3_clear_L2b (f_X3_clear_L2 n) σ v1 = some o := hf
    unfold f_X3_clear_L2b at hf
    refine x_iload_n g 1 dX3_clear_2 rfl rfl ?_
    refine x_bipush g 8 dX3_clear_3 (by decide) ?_
    refine x_icmp_ge g 24 dX3_clear_5 (by decide) hf (fun c5 hf => ?_) (fun c5 hf => ?_)
    · refine x_aload_n g 0 dX3_clear_8 rfl rfl ?_
      refine x_get g fl_X3_11 wx_12 rfl dX3_clear_9 ?_
      refine x_iload_n g 1 dX3_clear_12 rfl rfl ?_
      have hi1 := inb_lt (chk_some hf).1
      refine x_aald (b := Ad (14 + 3 * (Int32.toNatClampNeg v1))) g (t0 := 2) rfl wx_13 rfl dX3_clear_13 hf (fun hf => ?_)
      refine x_iconst g 0 dX3_clear_14 (by decide) ?_
      refine x_putB g tyX2 fl_X3_20 tyX2_ok nmX2 (wx_C hi1) rfl rfl rfl (Nat.le_of_ble_eq_true rfl) (sx_C_1 hi1 _) dX3_clear_15 hf (fun σ2 hf => ?_)
      refine x_iinc g 1 (v1 + 1) (lv' := [(1, .int (v1 + 1)), (0, .ref (Ad 12))]) dX3_clear_18 rfl (by rfl) (by decide) rfl ?_
      refine x_goto g 2 dX3_clear_21 (by decide) ?_
      exact x_sub [1, 0] rfl (ih2 _ _ hf)
    · cases hf
      exact x_vret g rfl ho dX3_clear_24
set_option maxHeartbeats 4000000 in
set_option maxRecDepth 100000 in
theorem c_X3_clear {l : Launch} {D : va_G} {cy : Nat → ClassId} {Ad : Nat → Nat} (hA : AdOK 58 Ad) {σ : St} {o : St} (hf : f_X3_clear σ = some o) : CT l (wX cy Ad) D cy (AdA 58 Ad) yX3_clear cX3_clear 2 none 0 [.ref (Ad 12)] σ (o, none) := by
  refine CT.of mf_X3_clear (wX_D hA) (Nat.le_of_ble_eq_true rfl) ?_
  intro E xl g
  have ho : ((o, none) : St × Option Value) = (o, none) := rfl
  unfold f_X3_clear at hf
  show XJ E (wX cy Ad σ) 0 [(0, .ref (Ad 12))] []
  refine x_iconst g 0 dX3_clear_0 (by decide) ?_
  refine x_istore_n (lv' := [(1, .int 0), (0, .ref (Ad 12))]) g dX3_clear_1 rfl (by decide) rfl ?_
  exact x_sub [1, 0] rfl (l_X3_clear_L2 hA xl g ho FU _ _ hf)
/-! SlotChip$Arrivals.clear()V -/
def f_X0_clear (σ : St) (i : Nat) : Option St :=
  bnd (si σ 0 i 0 0) fun σ1 =>
  bnd (si σ1 0 i 1 0) fun σ2 =>
  bnd (si σ2 0 i 2 0) fun σ3 =>
  some σ3
set_option maxHeartbeats 4000000 in
set_option maxRecDepth 100000 in
theorem c_X0_clear {l : Launch} {D : va_G} {cy : Nat → ClassId} {Ad : Nat → Nat} (hA : AdOK 58 Ad) {σ : St} {i : Nat} (h_i : i < 2) {o : St} (hf : f_X0_clear σ i = some o) : CT l (wX cy Ad) D cy (AdA 58 Ad) yX0_clear cX0_clear 1 none 0 [.ref (Ad (43 + i))] σ (o, none) := by
  refine CT.of mf_X0_clear (wX_D hA) (Nat.le_of_ble_eq_true rfl) ?_
  intro E xl g
  have ho : ((o, none) : St × Option Value) = (o, none) := rfl
  unfold f_X0_clear at hf
  show XJ E (wX cy Ad σ) 0 [(0, .ref (Ad (43 + i)))] []
  refine x_aload_n g 0 dX0_clear_0 rfl rfl ?_
  refine x_iconst g 0 dX0_clear_1 (by decide) ?_
  refine x_putB g tyX0 fl_X0_7 tyX0_ok nmX0 (wx_A h_i) rfl rfl rfl (Nat.le_of_ble_eq_true rfl) (sx_A_0 h_i _) dX0_clear_2 hf (fun σ1 hf => ?_)
  refine x_aload_n g 0 dX0_clear_5 rfl rfl ?_
  refine x_iconst g 0 dX0_clear_6 (by decide) ?_
  refine x_putB g tyX0 fl_X0_13 tyX0_ok nmX0 (wx_A h_i) rfl rfl rfl (Nat.le_of_ble_eq_true rfl) (sx_A_1 h_i _) dX0_clear_7 hf (fun σ2 hf => ?_)
  refine x_aload_n g 0 dX0_clear_10 rfl rfl ?_
  refine x_iconst g 0 dX0_clear_11 (by decide) ?_
  refine x_putB g tyX0 fl_X0_16 tyX0_ok nmX0 (wx_A h_i) rfl rfl rfl (Nat.le_of_ble_eq_true rfl) (sx_A_2 h_i _) dX0_clear_12 hf (fun σ3 hf => ?_)
  cases hf
  exact x_vret g rfl ho dX0_clear_15
/-! SlotChip$Strays.clear()V -/
def f_X9_clear (σ : St) : Option St :=
  bnd (si σ 8 0 0 0) fun σ1 =>
  (f_X0_clear σ1 0).bind fun σ3 =>
  (f_X0_clear σ3 1).bind fun σ5 =>
  some σ5
set_option maxHeartbeats 4000000 in
set_option maxRecDepth 100000 in
theorem c_X9_clear {l : Launch} {D : va_G} {cy : Nat → ClassId} {Ad : Nat → Nat} (hA : AdOK 58 Ad) {σ : St} {o : St} (hf : f_X9_clear σ = some o) : CT l (wX cy Ad) D cy (AdA 58 Ad) yX9_clear cX9_clear 1 none 1 [.ref (Ad 41)] σ (o, none) := by
  refine CT.of mf_X9_clear (wX_D hA) (Nat.le_of_ble_eq_true rfl) ?_
  intro E xl g
  have ho : ((o, none) : St × Option Value) = (o, none) := rfl
  unfold f_X9_clear at hf
  show XJ E (wX cy Ad σ) 0 [(0, .ref (Ad 41))] []
  refine x_aload_n g 0 dX9_clear_0 rfl rfl ?_
  refine x_iconst g 0 dX9_clear_1 (by decide) ?_
  refine x_putB g tyX9 fl_X9_32 tyX9_ok nmX9 wx_41 rfl rfl rfl (Nat.le_of_ble_eq_true rfl) (sx_41_0 _) dX9_clear_2 hf (fun σ1 hf => ?_)
  refine x_aload_n g 0 dX9_clear_5 rfl rfl ?_
  refine x_get g fl_X9_20 wx_41 rfl dX9_clear_6 ?_
  obtain ⟨σ3, hgr2, hf⟩ := obind hf
  refine x_callV (r := (RX0, TX0, 3)) g xl [] [] [] (c_X0_clear hA (by decide) hgr2) mf_X0_clear im_X0_clear se_X0_clear ml_X9_36 rfl wx_43 (by decide) (by decide) rfl (Nat.le_of_ble_eq_true rfl) dX9_clear_9 rfl rfl ?_
  refine x_aload_n g 0 dX9_clear_12 rfl rfl ?_
  refine x_get g fl_X9_24 wx_41 rfl dX9_clear_13 ?_
  obtain ⟨σ5, hgr4, hf⟩ := obind hf
  refine x_callV (r := (RX0, TX0, 3)) g xl [] [] [] (c_X0_clear hA (by decide) hgr4) mf_X0_clear im_X0_clear se_X0_clear ml_X9_36 rfl wx_44 (by decide) (by decide) rfl (Nat.le_of_ble_eq_true rfl) dX9_clear_16 rfl rfl ?_
  cases hf
  exact x_vret g rfl ho dX9_clear_19
/-! SlotChip.chip()I -/
def f_X11_chip (σ : St) : Option (St × Int32) :=
  (f_X5_read σ).bind fun (σ2, r1) =>
  if (σ2.1 5 0 4) = 0 then
    some (σ2, (-103))
  else
    ((f_X1_set σ2).bind fun σ4 =>
    (f_X3_clear σ4).bind fun σ6 =>
    (f_X9_clear σ6).bind fun σ8 =>
    bnd (si σ8 5 0 0 0) fun σ9 =>
    bnd (si σ9 10 0 6 ((σ9.1 10 0 6) + 1)) fun σ10 =>
    (f_X4_routers σ10 1).bind fun r11 =>
    some (σ10, r11))
set_option maxHeartbeats 4000000 in
set_option maxRecDepth 100000 in
theorem c_X11_chip {l : Launch} {D : va_G} {cy : Nat → ClassId} {Ad : Nat → Nat} (hA : AdOK 58 Ad) {σ : St} {o : (St × Int32)} (hf : f_X11_chip σ = some o) : CT l (wX cy Ad) D cy (AdA 58 Ad) yX11_chip cX11_chip 1 (some .int) 6 [.ref (Ad 0)] σ (o.1, (some (.int o.2))) := by
  refine CT.of mf_X11_chip (wX_D hA) (Nat.le_of_ble_eq_true rfl) ?_
  intro E xl g
  have ho : ((o.1, (some (.int o.2))) : St × Option Value) = (o.1, (some (.int o.2))) := rfl
  unfold f_X11_chip at hf
  show XJ E (wX cy Ad σ) 0 [(0, .ref (Ad 0))] []
  refine x_aload_n g 0 dX11_chip_0 rfl rfl ?_
  refine x_get g fl_X11_10 wx_0 rfl dX11_chip_1 ?_
  obtain ⟨⟨σ2, r1⟩, hgr1, hf⟩ := obind hf
  refine x_callV (r := (RX5, TX5, 9)) g xl [] [] [.int r1] (c_X5_read hA hgr1) mf_X5_read im_X5_read se_X5_read ml_X11_66 rfl wx_1 (by decide) (by decide) rfl (Nat.le_of_ble_eq_true rfl) dX11_chip_4 rfl rfl ?_
  refine x_pop g dX11_chip_7 rfl ?_
  refine x_aload_n g 0 dX11_chip_8 rfl rfl ?_
  refine x_get g fl_X11_10 wx_0 rfl dX11_chip_9 ?_
  refine x_get g fl_X11_70 wx_1 rfl dX11_chip_12 ?_
  refine x_if_ne g 21 dX11_chip_15 (by decide) hf (fun c15 hf => ?_) (fun c15 hf => ?_)
  · refine x_bipush g (-103) dX11_chip_18 (by decide) ?_
    cases hf
    exact x_iret g rfl ho dX11_chip_20
  · refine x_aload_n g 0 dX11_chip_21 rfl rfl ?_
    refine x_get g fl_X11_19 wx_0 rfl dX11_chip_22 ?_
    refine x_aload_n g 0 dX11_chip_25 rfl rfl ?_
    refine x_get g fl_X11_10 wx_0 rfl dX11_chip_26 ?_
    obtain ⟨σ4, hgr3, hf⟩ := obind hf
    refine x_callV (r := (RX1, TX1, 6)) g xl [.ref (Ad 1)] [] [] (c_X1_set hA hgr3) mf_X1_set im_X1_set se_X1_set ml_X11_74 rfl wx_6 (by decide) (by decide) rfl (Nat.le_of_ble_eq_true rfl) dX11_chip_29 rfl rfl ?_
    refine x_aload_n g 0 dX11_chip_32 rfl rfl ?_
    refine x_get g fl_X11_26 wx_0 rfl dX11_chip_33 ?_
    obtain ⟨σ6, hgr5, hf⟩ := obind hf
    refine x_callV (r := (RX3, TX3, 1)) g xl [] [] [] (c_X3_clear hA hgr5) mf_X3_clear im_X3_clear se_X3_clear ml_X11_78 rfl wx_12 (by decide) (by decide) rfl (Nat.le_of_ble_eq_true rfl) dX11_chip_36 rfl rfl ?_
    refine x_aload_n g 0 dX11_chip_39 rfl rfl ?_
    refine x_get g fl_X11_42 wx_0 rfl dX11_chip_40 ?_
    obtain ⟨σ8, hgr7, hf⟩ := obind hf
    refine x_callV (r := (RX9, TX9, 6)) g xl [] [] [] (c_X9_clear hA hgr7) mf_X9_clear im_X9_clear se_X9_clear ml_X11_81 rfl wx_41 (by decide) (by decide) rfl (Nat.le_of_ble_eq_true rfl) dX11_chip_43 rfl rfl ?_
    refine x_aload_n g 0 dX11_chip_46 rfl rfl ?_
    refine x_get g fl_X11_10 wx_0 rfl dX11_chip_47 ?_
    refine x_iconst g 0 dX11_chip_50 (by decide) ?_
    refine x_putB g tyX5 fl_X11_63 tyX5_ok nmX5 wx_1 rfl rfl rfl (Nat.le_of_ble_eq_true rfl) (sx_1_0 _) dX11_chip_51 hf (fun σ9 hf => ?_)
    refine x_aload_n g 0 dX11_chip_54 rfl rfl ?_
    refine x_dup g dX11_chip_55 rfl ?_
    refine x_get g fl_X11_55 wx_0 rfl dX11_chip_56 ?_
    refine x_iconst g 1 dX11_chip_59 (by decide) ?_
    refine x_iadd g dX11_chip_60 ?_
    refine x_putB g tyX11 fl_X11_55 tyX11_ok nmX11 wx_0 rfl rfl rfl (Nat.le_of_ble_eq_true rfl) (sx_0_6 _) dX11_chip_61 hf (fun σ10 hf => ?_)
    refine x_aload_n g 0 dX11_chip_64 rfl rfl ?_
    refine x_get g fl_X11_19 wx_0 rfl dX11_chip_65 ?_
    refine x_get g fl_X11_82 wx_6 rfl dX11_chip_68 ?_
    obtain ⟨r11, hgr11, hf⟩ := obind hf
    refine x_callV (r := (RX4, TX4, 3)) g xl [] [] [.int r11] (c_X4_routers hA (by decide) hgr11) mf_X4_routers im_X4_routers se_X4_routers ml_X11_86 rfl wx_7 (by decide) (by decide) rfl (Nat.le_of_ble_eq_true rfl) dX11_chip_71 rfl rfl ?_
    cases hf
    exact x_iret g rfl ho dX11_chip_74
/-! SlotChip$Board.isThere()Z -/
def f_X1_isThere (σ : St) : Option Int32 :=
  if 0 < (σ.1 1 0 1) then
    some 1
  else
    some 0
set_option maxHeartbeats 4000000 in
set_option maxRecDepth 100000 in
theorem c_X1_isThere {l : Launch} {D : va_G} {cy : Nat → ClassId} {Ad : Nat → Nat} (hA : AdOK 58 Ad) {σ : St} {o : Int32} (hf : f_X1_isThere σ = some o) : CT l (wX cy Ad) D cy (AdA 58 Ad) yX1_isThere cX1_isThere 1 (some .boolean) 0 [.ref (Ad 6)] σ (σ, (some (.int o))) := by
  refine CT.of mf_X1_isThere (wX_D hA) (Nat.le_of_ble_eq_true rfl) ?_
  intro E xl g
  have ho : ((σ, (some (.int o))) : St × Option Value) = (σ, (some (.int o))) := rfl
  unfold f_X1_isThere at hf
  show XJ E (wX cy Ad σ) 0 [(0, .ref (Ad 6))] []
  refine x_aload_n g 0 dX1_isThere_0 rfl rfl ?_
  refine x_get g fl_X1_45 wx_6 rfl dX1_isThere_1 ?_
  refine x_if_le g 11 dX1_isThere_4 (by decide) hf (fun c4 hf => ?_) (fun c4 hf => ?_)
  · refine x_iconst g 1 dX1_isThere_7 (by decide) ?_
    refine x_goto g 12 dX1_isThere_8 (by decide) ?_
    cases hf
    exact x_zret g rfl (by decide) ho dX1_isThere_12
  · refine x_iconst g 0 dX1_isThere_11 (by decide) ?_
    cases hf
    exact x_zret g rfl (by decide) ho dX1_isThere_12
/-! SlotChip$Board.links()I -/
def f_X1_links_L4b (σ : St) (K4 : Int32 → Int32 → Option Int32) (v1 : Int32) (v2 : Int32) : Option Int32 :=
  if v2 < 54 then
    ((f_X4_hasLink σ 1 v2).bind fun r1 =>
    if r1 = 0 then
      K4 v1 (v2 + 1)
    else
      K4 (v1 + 1) (v2 + 1))
  else
    some v1
def f_X1_links_L4 (σ : St) : Nat → Int32 → Int32 → Option Int32
  | 0 => fun _ _ => none
  | n + 1 => f_X1_links_L4b σ (f_X1_links_L4 σ n)
def f_X1_links (σ : St) : Option Int32 :=
  f_X1_links_L4 σ FU 0 0
set_option maxHeartbeats 4000000 in
set_option maxRecDepth 100000 in
theorem l_X1_links_L4 {E : EV} {l : Launch} {D : va_G} {cy : Nat → ClassId} {Ad : Nat → Nat} {out : St × Option Value} {o : Int32} (hA : AdOK 58 Ad) (xl : XL E l D (AdA 58 Ad)) (g : XG E (wX cy Ad) cy cX1_links RX1 3 2 (some .int) out) (σ : St) (ho : out = (σ, (some (.int o)))) : ∀ (n : Nat) (v1 : Int32) (v2 : Int32), f_X1_links_L4 σ n v1 v2 = some o → XJ E (wX cy Ad σ) 4 [(0, .ref (Ad 6)), (1, .int v1), (2, .int v2)] [] := by
  intro n
  induction n with
  | zero => intro _ _ hf; cases hf
  | succ n ih4 =>
    intro v1 v2 hf
    replace hf : f_X1_links_L4b σ (f_X1_links_L4 σ n) v1 v2 = some o := hf
    unfold f_X1_links_L4b at hf
    refine x_iload_n g 2 dX1_links_4 rfl rfl ?_
    refine x_bipush g 54 dX1_links_5 (by decide) ?_
    refine x_icmp_ge g 30 dX1_links_7 (by decide) hf (fun c7 hf => ?_) (fun c7 hf => ?_)
    · refine x_aload_n g 0 dX1_links_10 rfl rfl ?_
      refine x_get g fl_X1_12 wx_6 rfl dX1_links_11 ?_
      refine x_iload_n g 2 dX1_links_14 rfl rfl ?_
      obtain ⟨r1, hgr1, hf⟩ := obind hf
      refine x_callV (r := (RX4, TX4, 3)) g xl [.int v2] [] [.int r1] (c_X4_hasLink hA (by decide) hgr1) mf_X4_hasLink im_X4_hasLink se_X4_hasLink ml_X1_108 rfl wx_7 (by decide) (by decide) rfl (Nat.le_of_ble_eq_true rfl) dX1_links_15 rfl rfl ?_
      refine x_if_eq g 24 dX1_links_18 (by decide) hf (fun c18 hf => ?_) (fun c18 hf => ?_)
      · refine x_iinc g 2 (v2 + 1) (lv' := [(2, .int (v2 + 1)), (0, .ref (Ad 6)), (1, .int v1)]) dX1_links_24 rfl (by rfl) (by decide) rfl ?_
        refine x_goto g 4 dX1_links_27 (by decide) ?_
        exact x_sub [1, 2, 0] rfl (ih4 _ _ hf)
      · refine x_iinc g 1 (v1 + 1) (lv' := [(1, .int (v1 + 1)), (0, .ref (Ad 6)), (2, .int v2)]) dX1_links_21 rfl (by rfl) (by decide) rfl ?_
        refine x_iinc g 2 (v2 + 1) (lv' := [(2, .int (v2 + 1)), (1, .int (v1 + 1)), (0, .ref (Ad 6))]) dX1_links_24 rfl (by rfl) (by decide) rfl ?_
        refine x_goto g 4 dX1_links_27 (by decide) ?_
        exact x_sub [2, 1, 0] rfl (ih4 _ _ hf)
    · refine x_iload_n g 1 dX1_links_30 rfl rfl ?_
      cases hf
      exact x_iret g rfl ho dX1_links_31
set_option maxHeartbeats 4000000 in
set_option maxRecDepth 100000 in
theorem c_X1_links {l : Launch} {D : va_G} {cy : Nat → ClassId} {Ad : Nat → Nat} (hA : AdOK 58 Ad) {σ : St} {o : Int32} (hf : f_X1_links σ = some o) : CT l (wX cy Ad) D cy (AdA 58 Ad) yX1_links cX1_links 3 (some .int) 2 [.ref (Ad 6)] σ (σ, (some (.int o))) := by
  refine CT.of mf_X1_links (wX_D hA) (Nat.le_of_ble_eq_true rfl) ?_
  intro E xl g
  have ho : ((σ, (some (.int o))) : St × Option Value) = (σ, (some (.int o))) := rfl
  unfold f_X1_links at hf
  show XJ E (wX cy Ad σ) 0 [(0, .ref (Ad 6))] []
  refine x_iconst g 0 dX1_links_0 (by decide) ?_
  refine x_istore_n (lv' := [(1, .int 0), (0, .ref (Ad 6))]) g dX1_links_1 rfl (by decide) rfl ?_
  refine x_iconst g 0 dX1_links_2 (by decide) ?_
  refine x_istore_n (lv' := [(2, .int 0), (1, .int 0), (0, .ref (Ad 6))]) g dX1_links_3 rfl (by decide) rfl ?_
  exact x_sub [2, 1, 0] rfl (l_X1_links_L4 hA xl g _ ho FU _ _ hf)
/-! SlotChip$Board.brokenLinks()I -/
def f_X1_brokenLinks_L4b (σ : St) (K4 : Int32 → Int32 → Option Int32) (v1 : Int32) (v2 : Int32) : Option Int32 :=
  if v2 < 54 then
    (chk (inb v2 54) (
      if (σ.1 14 0 (Int32.toNatClampNeg v2)) = 0 then
        K4 v1 (v2 + 1)
      else
        K4 (v1 + 1) (v2 + 1)))
  else
    some v1
def f_X1_brokenLinks_L4 (σ : St) : Nat → Int32 → Int32 → Option Int32
  | 0 => fun _ _ => none
  | n + 1 => f_X1_brokenLinks_L4b σ (f_X1_brokenLinks_L4 σ n)
def f_X1_brokenLinks (σ : St) : Option Int32 :=
  f_X1_brokenLinks_L4 σ FU 0 0
set_option maxHeartbeats 4000000 in
set_option maxRecDepth 100000 in
theorem l_X1_brokenLinks_L4 {E : EV} {l : Launch} {D : va_G} {cy : Nat → ClassId} {Ad : Nat → Nat} {out : St × Option Value} {o : Int32} (hA : AdOK 58 Ad) (xl : XL E l D (AdA 58 Ad)) (g : XG E (wX cy Ad) cy cX1_brokenLinks RX1 3 0 (some .int) out) (σ : St) (ho : out = (σ, (some (.int o)))) : ∀ (n : Nat) (v1 : Int32) (v2 : Int32), f_X1_brokenLinks_L4 σ n v1 v2 = some o → XJ E (wX cy Ad σ) 4 [(0, .ref (Ad 6)), (1, .int v1), (2, .int v2)] [] := by
  intro n
  induction n with
  | zero => intro _ _ hf; cases hf
  | succ n ih4 =>
    intro v1 v2 hf
    replace hf : f_X1_brokenLinks_L4b σ (f_X1_brokenLinks_L4 σ n) v1 v2 = some o := hf
    unfold f_X1_brokenLinks_L4b at hf
    refine x_iload_n g 2 dX1_brokenLinks_4 rfl rfl ?_
    refine x_bipush g 54 dX1_brokenLinks_5 (by decide) ?_
    refine x_icmp_ge g 28 dX1_brokenLinks_7 (by decide) hf (fun c7 hf => ?_) (fun c7 hf => ?_)
    · refine x_aload_n g 0 dX1_brokenLinks_10 rfl rfl ?_
      refine x_get g fl_X1_18 wx_6 rfl dX1_brokenLinks_11 ?_
      refine x_iload_n g 2 dX1_brokenLinks_14 rfl rfl ?_
      refine x_zald g wx_9 dX1_brokenLinks_15 hf (fun hf => ?_)
      refine x_if_eq g 22 dX1_brokenLinks_16 (by decide) hf (fun c16 hf => ?_) (fun c16 hf => ?_)
      · refine x_iinc g 2 (v2 + 1) (lv' := [(2, .int (v2 + 1)), (0, .ref (Ad 6)), (1, .int v1)]) dX1_brokenLinks_22 rfl (by rfl) (by decide) rfl ?_
        refine x_goto g 4 dX1_brokenLinks_25 (by decide) ?_
        exact x_sub [1, 2, 0] rfl (ih4 _ _ hf)
      · refine x_iinc g 1 (v1 + 1) (lv' := [(1, .int (v1 + 1)), (0, .ref (Ad 6)), (2, .int v2)]) dX1_brokenLinks_19 rfl (by rfl) (by decide) rfl ?_
        refine x_iinc g 2 (v2 + 1) (lv' := [(2, .int (v2 + 1)), (1, .int (v1 + 1)), (0, .ref (Ad 6))]) dX1_brokenLinks_22 rfl (by rfl) (by decide) rfl ?_
        refine x_goto g 4 dX1_brokenLinks_25 (by decide) ?_
        exact x_sub [2, 1, 0] rfl (ih4 _ _ hf)
    · refine x_iload_n g 1 dX1_brokenLinks_28 rfl rfl ?_
      cases hf
      exact x_iret g rfl ho dX1_brokenLinks_29
set_option maxHeartbeats 4000000 in
set_option maxRecDepth 100000 in
theorem c_X1_brokenLinks {l : Launch} {D : va_G} {cy : Nat → ClassId} {Ad : Nat → Nat} (hA : AdOK 58 Ad) {σ : St} {o : Int32} (hf : f_X1_brokenLinks σ = some o) : CT l (wX cy Ad) D cy (AdA 58 Ad) yX1_brokenLinks cX1_brokenLinks 3 (some .int) 0 [.ref (Ad 6)] σ (σ, (some (.int o))) := by
  refine CT.of mf_X1_brokenLinks (wX_D hA) (Nat.le_of_ble_eq_true rfl) ?_
  intro E xl g
  have ho : ((σ, (some (.int o))) : St × Option Value) = (σ, (some (.int o))) := rfl
  unfold f_X1_brokenLinks at hf
  show XJ E (wX cy Ad σ) 0 [(0, .ref (Ad 6))] []
  refine x_iconst g 0 dX1_brokenLinks_0 (by decide) ?_
  refine x_istore_n (lv' := [(1, .int 0), (0, .ref (Ad 6))]) g dX1_brokenLinks_1 rfl (by decide) rfl ?_
  refine x_iconst g 0 dX1_brokenLinks_2 (by decide) ?_
  refine x_istore_n (lv' := [(2, .int 0), (1, .int 0), (0, .ref (Ad 6))]) g dX1_brokenLinks_3 rfl (by decide) rfl ?_
  exact x_sub [2, 1, 0] rfl (l_X1_brokenLinks_L4 hA xl g _ ho FU _ _ hf)
/-! SlotChip$Board.allSlotsHad()I -/
def f_X1_allSlotsHad_L4b (σ : St) (K4 : Int32 → Int32 → Option Int32) (v1 : Int32) (v2 : Int32) : Option Int32 :=
  if v2 < 540 then
    (chk (inb v2 540) (
      if (σ.1 16 0 (Int32.toNatClampNeg v2)) = (-1) then
        K4 v1 (v2 + 1)
      else
        K4 (v1 + 1) (v2 + 1)))
  else
    some v1
def f_X1_allSlotsHad_L4 (σ : St) : Nat → Int32 → Int32 → Option Int32
  | 0 => fun _ _ => none
  | n + 1 => f_X1_allSlotsHad_L4b σ (f_X1_allSlotsHad_L4 σ n)
def f_X1_allSlotsHad (σ : St) : Option Int32 :=
  f_X1_allSlotsHad_L4 σ FU 0 0
set_option maxHeartbeats 4000000 in
set_option maxRecDepth 100000 in
theorem l_X1_allSlotsHad_L4 {E : EV} {l : Launch} {D : va_G} {cy : Nat → ClassId} {Ad : Nat → Nat} {out : St × Option Value} {o : Int32} (hA : AdOK 58 Ad) (xl : XL E l D (AdA 58 Ad)) (g : XG E (wX cy Ad) cy cX1_allSlotsHad RX1 3 0 (some .int) out) (σ : St) (ho : out = (σ, (some (.int o)))) : ∀ (n : Nat) (v1 : Int32) (v2 : Int32), f_X1_allSlotsHad_L4 σ n v1 v2 = some o → XJ E (wX cy Ad σ) 4 [(0, .ref (Ad 6)), (1, .int v1), (2, .int v2)] [] := by
  intro n
  induction n with
  | zero => intro _ _ hf; cases hf
  | succ n ih4 =>
    intro v1 v2 hf
    replace hf : f_X1_allSlotsHad_L4b σ (f_X1_allSlotsHad_L4 σ n) v1 v2 = some o := hf
    unfold f_X1_allSlotsHad_L4b at hf
    refine x_iload_n g 2 dX1_allSlotsHad_4 rfl rfl ?_
    refine x_sipush g 540 dX1_allSlotsHad_5 (by decide) ?_
    refine x_icmp_ge g 30 dX1_allSlotsHad_8 (by decide) hf (fun c8 hf => ?_) (fun c8 hf => ?_)
    · refine x_aload_n g 0 dX1_allSlotsHad_11 rfl rfl ?_
      refine x_get g fl_X1_26 wx_6 rfl dX1_allSlotsHad_12 ?_
      refine x_iload_n g 2 dX1_allSlotsHad_15 rfl rfl ?_
      refine x_iald g wx_11 dX1_allSlotsHad_16 hf (fun hf => ?_)
      refine x_iconst g (-1) dX1_allSlotsHad_17 (by decide) ?_
      refine x_icmp_eq g 24 dX1_allSlotsHad_18 (by decide) hf (fun c18 hf => ?_) (fun c18 hf => ?_)
      · refine x_iinc g 2 (v2 + 1) (lv' := [(2, .int (v2 + 1)), (0, .ref (Ad 6)), (1, .int v1)]) dX1_allSlotsHad_24 rfl (by rfl) (by decide) rfl ?_
        refine x_goto g 4 dX1_allSlotsHad_27 (by decide) ?_
        exact x_sub [1, 2, 0] rfl (ih4 _ _ hf)
      · refine x_iinc g 1 (v1 + 1) (lv' := [(1, .int (v1 + 1)), (0, .ref (Ad 6)), (2, .int v2)]) dX1_allSlotsHad_21 rfl (by rfl) (by decide) rfl ?_
        refine x_iinc g 2 (v2 + 1) (lv' := [(2, .int (v2 + 1)), (1, .int (v1 + 1)), (0, .ref (Ad 6))]) dX1_allSlotsHad_24 rfl (by rfl) (by decide) rfl ?_
        refine x_goto g 4 dX1_allSlotsHad_27 (by decide) ?_
        exact x_sub [2, 1, 0] rfl (ih4 _ _ hf)
    · refine x_iload_n g 1 dX1_allSlotsHad_30 rfl rfl ?_
      cases hf
      exact x_iret g rfl ho dX1_allSlotsHad_31
set_option maxHeartbeats 4000000 in
set_option maxRecDepth 100000 in
theorem c_X1_allSlotsHad {l : Launch} {D : va_G} {cy : Nat → ClassId} {Ad : Nat → Nat} (hA : AdOK 58 Ad) {σ : St} {o : Int32} (hf : f_X1_allSlotsHad σ = some o) : CT l (wX cy Ad) D cy (AdA 58 Ad) yX1_allSlotsHad cX1_allSlotsHad 3 (some .int) 0 [.ref (Ad 6)] σ (σ, (some (.int o))) := by
  refine CT.of mf_X1_allSlotsHad (wX_D hA) (Nat.le_of_ble_eq_true rfl) ?_
  intro E xl g
  have ho : ((σ, (some (.int o))) : St × Option Value) = (σ, (some (.int o))) := rfl
  unfold f_X1_allSlotsHad at hf
  show XJ E (wX cy Ad σ) 0 [(0, .ref (Ad 6))] []
  refine x_iconst g 0 dX1_allSlotsHad_0 (by decide) ?_
  refine x_istore_n (lv' := [(1, .int 0), (0, .ref (Ad 6))]) g dX1_allSlotsHad_1 rfl (by decide) rfl ?_
  refine x_iconst g 0 dX1_allSlotsHad_2 (by decide) ?_
  refine x_istore_n (lv' := [(2, .int 0), (1, .int 0), (0, .ref (Ad 6))]) g dX1_allSlotsHad_3 rfl (by decide) rfl ?_
  exact x_sub [2, 1, 0] rfl (l_X1_allSlotsHad_L4 hA xl g _ ho FU _ _ hf)
/-! SlotChip$Board.mostUsed()I -/
def f_X1_mostUsed_L4b (σ : St) (K4 : Int32 → Int32 → Option Int32) (v1 : Int32) (v2 : Int32) : Option Int32 :=
  if v2 < 54 then
    (chk (inb v2 54) (
      chk (inb v1 54) (
        if (σ.1 15 0 (Int32.toNatClampNeg v1)) < (σ.1 15 0 (Int32.toNatClampNeg v2)) then
          K4 v2 (v2 + 1)
        else
          K4 v1 (v2 + 1))))
  else
    some v1
def f_X1_mostUsed_L4 (σ : St) : Nat → Int32 → Int32 → Option Int32
  | 0 => fun _ _ => none
  | n + 1 => f_X1_mostUsed_L4b σ (f_X1_mostUsed_L4 σ n)
def f_X1_mostUsed (σ : St) : Option Int32 :=
  f_X1_mostUsed_L4 σ FU 0 1
set_option maxHeartbeats 4000000 in
set_option maxRecDepth 100000 in
theorem l_X1_mostUsed_L4 {E : EV} {l : Launch} {D : va_G} {cy : Nat → ClassId} {Ad : Nat → Nat} {out : St × Option Value} {o : Int32} (hA : AdOK 58 Ad) (xl : XL E l D (AdA 58 Ad)) (g : XG E (wX cy Ad) cy cX1_mostUsed RX1 3 0 (some .int) out) (σ : St) (ho : out = (σ, (some (.int o)))) : ∀ (n : Nat) (v1 : Int32) (v2 : Int32), f_X1_mostUsed_L4 σ n v1 v2 = some o → XJ E (wX cy Ad σ) 4 [(0, .ref (Ad 6)), (1, .int v1), (2, .int v2)] [] := by
  intro n
  induction n with
  | zero => intro _ _ hf; cases hf
  | succ n ih4 =>
    intro v1 v2 hf
    replace hf : f_X1_mostUsed_L4b σ (f_X1_mostUsed_L4 σ n) v1 v2 = some o := hf
    unfold f_X1_mostUsed_L4b at hf
    refine x_iload_n g 2 dX1_mostUsed_4 rfl rfl ?_
    refine x_bipush g 54 dX1_mostUsed_5 (by decide) ?_
    refine x_icmp_ge g 33 dX1_mostUsed_7 (by decide) hf (fun c7 hf => ?_) (fun c7 hf => ?_)
    · refine x_aload_n g 0 dX1_mostUsed_10 rfl rfl ?_
      refine x_get g fl_X1_22 wx_6 rfl dX1_mostUsed_11 ?_
      refine x_iload_n g 2 dX1_mostUsed_14 rfl rfl ?_
      refine x_iald g wx_10 dX1_mostUsed_15 hf (fun hf => ?_)
      refine x_aload_n g 0 dX1_mostUsed_16 rfl rfl ?_
      refine x_get g fl_X1_22 wx_6 rfl dX1_mostUsed_17 ?_
      refine x_iload_n g 1 dX1_mostUsed_20 rfl rfl ?_
      refine x_iald g wx_10 dX1_mostUsed_21 hf (fun hf => ?_)
      refine x_icmp_le g 27 dX1_mostUsed_22 (by decide) hf (fun c22 hf => ?_) (fun c22 hf => ?_)
      · refine x_iload_n g 2 dX1_mostUsed_25 rfl rfl ?_
        refine x_istore_n (lv' := [(1, .int v2), (0, .ref (Ad 6)), (2, .int v2)]) g dX1_mostUsed_26 rfl (by decide) rfl ?_
        refine x_iinc g 2 (v2 + 1) (lv' := [(2, .int (v2 + 1)), (1, .int v2), (0, .ref (Ad 6))]) dX1_mostUsed_27 rfl (by rfl) (by decide) rfl ?_
        refine x_goto g 4 dX1_mostUsed_30 (by decide) ?_
        exact x_sub [2, 1, 0] rfl (ih4 _ _ hf)
      · refine x_iinc g 2 (v2 + 1) (lv' := [(2, .int (v2 + 1)), (0, .ref (Ad 6)), (1, .int v1)]) dX1_mostUsed_27 rfl (by rfl) (by decide) rfl ?_
        refine x_goto g 4 dX1_mostUsed_30 (by decide) ?_
        exact x_sub [1, 2, 0] rfl (ih4 _ _ hf)
    · refine x_iload_n g 1 dX1_mostUsed_33 rfl rfl ?_
      cases hf
      exact x_iret g rfl ho dX1_mostUsed_34
set_option maxHeartbeats 4000000 in
set_option maxRecDepth 100000 in
theorem c_X1_mostUsed {l : Launch} {D : va_G} {cy : Nat → ClassId} {Ad : Nat → Nat} (hA : AdOK 58 Ad) {σ : St} {o : Int32} (hf : f_X1_mostUsed σ = some o) : CT l (wX cy Ad) D cy (AdA 58 Ad) yX1_mostUsed cX1_mostUsed 3 (some .int) 0 [.ref (Ad 6)] σ (σ, (some (.int o))) := by
  refine CT.of mf_X1_mostUsed (wX_D hA) (Nat.le_of_ble_eq_true rfl) ?_
  intro E xl g
  have ho : ((σ, (some (.int o))) : St × Option Value) = (σ, (some (.int o))) := rfl
  unfold f_X1_mostUsed at hf
  show XJ E (wX cy Ad σ) 0 [(0, .ref (Ad 6))] []
  refine x_iconst g 0 dX1_mostUsed_0 (by decide) ?_
  refine x_istore_n (lv' := [(1, .int 0), (0, .ref (Ad 6))]) g dX1_mostUsed_1 rfl (by decide) rfl ?_
  refine x_iconst g 1 dX1_mostUsed_2 (by decide) ?_
  refine x_istore_n (lv' := [(2, .int 1), (1, .int 0), (0, .ref (Ad 6))]) g dX1_mostUsed_3 rfl (by decide) rfl ?_
  exact x_sub [2, 1, 0] rfl (l_X1_mostUsed_L4 hA xl g _ ho FU _ _ hf)
/-! SlotChip$Board.tell(I)I -/
def f_X1_tell (σ : St) (p1 : Int32) : Option Int32 :=
  if p1 = 0 then
    some (σ.1 4 1 0)
  else
    (if p1 = 1 then
      some (σ.1 4 1 1)
    else
      (if p1 = 2 then
        some (σ.1 1 0 1)
      else
        (if p1 = 3 then
          ((f_X1_links σ).bind fun r1 =>
          some r1)
        else
          (if p1 = 4 then
            ((f_X1_brokenLinks σ).bind fun r2 =>
            some r2)
          else
            (if p1 = 5 then
              ((f_X1_allSlotsHad σ).bind fun r3 =>
              some r3)
            else
              (if p1 = 6 then
                some (σ.1 1 0 2)
              else
                ((f_X1_mostUsed σ).bind fun r4 =>
                some r4)))))))
set_option maxHeartbeats 4000000 in
set_option maxRecDepth 100000 in
theorem c_X1_tell {l : Launch} {D : va_G} {cy : Nat → ClassId} {Ad : Nat → Nat} (hA : AdOK 58 Ad) {σ : St} {p1 : Int32} {o : Int32} (hf : f_X1_tell σ p1 = some o) : CT l (wX cy Ad) D cy (AdA 58 Ad) yX1_tell cX1_tell 2 (some .int) 3 [.ref (Ad 6), .int p1] σ (σ, (some (.int o))) := by
  refine CT.of mf_X1_tell (wX_D hA) (Nat.le_of_ble_eq_true rfl) ?_
  intro E xl g
  have ho : ((σ, (some (.int o))) : St × Option Value) = (σ, (some (.int o))) := rfl
  unfold f_X1_tell at hf
  show XJ E (wX cy Ad σ) 0 [(0, .ref (Ad 6)), (1, .int p1)] []
  refine x_iload_n g 1 dX1_tell_0 rfl rfl ?_
  refine sp hf (fun n_1_0 hf => ?_) (fun n_1_0 hf => ?_)
  · refine x_tin g 0 43 44 dX1_tell_1 n_1_0 (by decide) ?_
    refine x_aload_n g 0 dX1_tell_44 rfl rfl ?_
    refine x_get g fl_X1_12 wx_6 rfl dX1_tell_45 ?_
    refine x_get g fl_X1_85 wx_7 rfl dX1_tell_48 ?_
    cases hf
    exact x_iret g rfl ho dX1_tell_51
  · refine sp hf (fun n_1_1 hf => ?_) (fun n_1_1 hf => ?_)
    · refine x_tin g 1 51 52 dX1_tell_1 n_1_1 (by decide) ?_
      refine x_aload_n g 0 dX1_tell_52 rfl rfl ?_
      refine x_get g fl_X1_12 wx_6 rfl dX1_tell_53 ?_
      refine x_get g fl_X1_86 wx_7 rfl dX1_tell_56 ?_
      cases hf
      exact x_iret g rfl ho dX1_tell_59
    · refine sp hf (fun n_1_2 hf => ?_) (fun n_1_2 hf => ?_)
      · refine x_tin g 2 59 60 dX1_tell_1 n_1_2 (by decide) ?_
        refine x_aload_n g 0 dX1_tell_60 rfl rfl ?_
        refine x_get g fl_X1_45 wx_6 rfl dX1_tell_61 ?_
        cases hf
        exact x_iret g rfl ho dX1_tell_64
      · refine sp hf (fun n_1_3 hf => ?_) (fun n_1_3 hf => ?_)
        · refine x_tin g 3 64 65 dX1_tell_1 n_1_3 (by decide) ?_
          refine x_aload_n g 0 dX1_tell_65 rfl rfl ?_
          obtain ⟨r1, hgr1, hf⟩ := obind hf
          refine x_callV (r := (RX1, TX1, 6)) g xl [] [] [.int r1] (c_X1_links hA hgr1) mf_X1_links im_X1_links se_X1_links ml_X1_87 rfl wx_6 (by decide) (by decide) rfl (Nat.le_of_ble_eq_true rfl) dX1_tell_66 rfl rfl ?_
          cases hf
          exact x_iret g rfl ho dX1_tell_69
        · refine sp hf (fun n_1_4 hf => ?_) (fun n_1_4 hf => ?_)
          · refine x_tin g 4 69 70 dX1_tell_1 n_1_4 (by decide) ?_
            refine x_aload_n g 0 dX1_tell_70 rfl rfl ?_
            obtain ⟨r2, hgr2, hf⟩ := obind hf
            refine x_callV (r := (RX1, TX1, 6)) g xl [] [] [.int r2] (c_X1_brokenLinks hA hgr2) mf_X1_brokenLinks im_X1_brokenLinks se_X1_brokenLinks ml_X1_90 rfl wx_6 (by decide) (by decide) rfl (Nat.le_of_ble_eq_true rfl) dX1_tell_71 rfl rfl ?_
            cases hf
            exact x_iret g rfl ho dX1_tell_74
          · refine sp hf (fun n_1_5 hf => ?_) (fun n_1_5 hf => ?_)
            · refine x_tin g 5 74 75 dX1_tell_1 n_1_5 (by decide) ?_
              refine x_aload_n g 0 dX1_tell_75 rfl rfl ?_
              obtain ⟨r3, hgr3, hf⟩ := obind hf
              refine x_callV (r := (RX1, TX1, 6)) g xl [] [] [.int r3] (c_X1_allSlotsHad hA hgr3) mf_X1_allSlotsHad im_X1_allSlotsHad se_X1_allSlotsHad ml_X1_93 rfl wx_6 (by decide) (by decide) rfl (Nat.le_of_ble_eq_true rfl) dX1_tell_76 rfl rfl ?_
              cases hf
              exact x_iret g rfl ho dX1_tell_79
            · refine sp hf (fun n_1_6 hf => ?_) (fun n_1_6 hf => ?_)
              · refine x_tin g 6 79 80 dX1_tell_1 n_1_6 (by decide) ?_
                refine x_aload_n g 0 dX1_tell_80 rfl rfl ?_
                refine x_get g fl_X1_46 wx_6 rfl dX1_tell_81 ?_
                cases hf
                exact x_iret g rfl ho dX1_tell_84
              · refine x_tout g 85 dX1_tell_1 (by have e0 := tI n_1_0 (by decide : (0 : Int32).toInt = 0); have e1 := tI n_1_1 (by decide : (1 : Int32).toInt = 1); have e2 := tI n_1_2 (by decide : (2 : Int32).toInt = 2); have e3 := tI n_1_3 (by decide : (3 : Int32).toInt = 3); have e4 := tI n_1_4 (by decide : (4 : Int32).toInt = 4); have e5 := tI n_1_5 (by decide : (5 : Int32).toInt = 5); have e6 := tI n_1_6 (by decide : (6 : Int32).toInt = 6); omega) (by decide) ?_
                refine x_aload_n g 0 dX1_tell_85 rfl rfl ?_
                obtain ⟨r4, hgr4, hf⟩ := obind hf
                refine x_callV (r := (RX1, TX1, 6)) g xl [] [] [.int r4] (c_X1_mostUsed hA hgr4) mf_X1_mostUsed im_X1_mostUsed se_X1_mostUsed ml_X1_96 rfl wx_6 (by decide) (by decide) rfl (Nat.le_of_ble_eq_true rfl) dX1_tell_86 rfl rfl ?_
                cases hf
                exact x_iret g rfl ho dX1_tell_89
/-! SlotChip.about(I)I -/
def f_X11_about (σ : St) (p1 : Int32) : Option Int32 :=
  if 0 ≤ p1 then
    (if 7 < p1 then
      some (-102)
    else
      ((f_X1_isThere σ).bind fun r1 =>
      if r1 = 0 then
        some (-103)
      else
        ((f_X1_tell σ p1).bind fun r2 =>
        some r2)))
  else
    some (-102)
set_option maxHeartbeats 4000000 in
set_option maxRecDepth 100000 in
theorem c_X11_about {l : Launch} {D : va_G} {cy : Nat → ClassId} {Ad : Nat → Nat} (hA : AdOK 58 Ad) {σ : St} {p1 : Int32} {o : Int32} (hf : f_X11_about σ p1 = some o) : CT l (wX cy Ad) D cy (AdA 58 Ad) yX11_about cX11_about 2 (some .int) 4 [.ref (Ad 0), .int p1] σ (σ, (some (.int o))) := by
  refine CT.of mf_X11_about (wX_D hA) (Nat.le_of_ble_eq_true rfl) ?_
  intro E xl g
  have ho : ((σ, (some (.int o))) : St × Option Value) = (σ, (some (.int o))) := rfl
  unfold f_X11_about at hf
  show XJ E (wX cy Ad σ) 0 [(0, .ref (Ad 0)), (1, .int p1)] []
  refine x_iload_n g 1 dX11_about_0 rfl rfl ?_
  refine x_if_lt g 10 dX11_about_1 (by decide) hf (fun c1 hf => ?_) (fun c1 hf => ?_)
  · refine x_iload_n g 1 dX11_about_4 rfl rfl ?_
    refine x_bipush g 7 dX11_about_5 (by decide) ?_
    refine x_icmp_le g 13 dX11_about_7 (by decide) hf (fun c7 hf => ?_) (fun c7 hf => ?_)
    · refine x_bipush g (-102) dX11_about_10 (by decide) ?_
      cases hf
      exact x_iret g rfl ho dX11_about_12
    · refine x_aload_n g 0 dX11_about_13 rfl rfl ?_
      refine x_get g fl_X11_19 wx_0 rfl dX11_about_14 ?_
      obtain ⟨r1, hgr1, hf⟩ := obind hf
      refine x_callV (r := (RX1, TX1, 6)) g xl [] [] [.int r1] (c_X1_isThere hA hgr1) mf_X1_isThere im_X1_isThere se_X1_isThere ml_X11_91 rfl wx_6 (by decide) (by decide) rfl (Nat.le_of_ble_eq_true rfl) dX11_about_17 rfl rfl ?_
      refine x_if_eq g 34 dX11_about_20 (by decide) hf (fun c20 hf => ?_) (fun c20 hf => ?_)
      · refine x_bipush g (-103) dX11_about_34 (by decide) ?_
        cases hf
        exact x_iret g rfl ho dX11_about_36
      · refine x_aload_n g 0 dX11_about_23 rfl rfl ?_
        refine x_get g fl_X11_19 wx_0 rfl dX11_about_24 ?_
        refine x_iload_n g 1 dX11_about_27 rfl rfl ?_
        obtain ⟨r2, hgr2, hf⟩ := obind hf
        refine x_callV (r := (RX1, TX1, 6)) g xl [.int p1] [] [.int r2] (c_X1_tell hA hgr2) mf_X1_tell im_X1_tell se_X1_tell ml_X11_95 rfl wx_6 (by decide) (by decide) rfl (Nat.le_of_ble_eq_true rfl) dX11_about_28 rfl rfl ?_
        refine x_goto g 36 dX11_about_31 (by decide) ?_
        cases hf
        exact x_iret g rfl ho dX11_about_36
  · refine x_bipush g (-102) dX11_about_10 (by decide) ?_
    cases hf
    exact x_iret g rfl ho dX11_about_12
/-! SlotChip$Grid.endOf(I)I -/
def f_X4_endOf (σ : St) (i : Nat) (p1 : Int32) : Option Int32 :=
  (f_X4_hasLink σ i p1).bind fun r1 =>
  if r1 = 0 then
    some (-1)
  else
    (chk (inb p1 54) (
      some (σ.1 11 i (Int32.toNatClampNeg p1))))
set_option maxHeartbeats 4000000 in
set_option maxRecDepth 100000 in
theorem c_X4_endOf {l : Launch} {D : va_G} {cy : Nat → ClassId} {Ad : Nat → Nat} (hA : AdOK 58 Ad) {σ : St} {i : Nat} {p1 : Int32} (h_i : i < 2) {o : Int32} (hf : f_X4_endOf σ i p1 = some o) : CT l (wX cy Ad) D cy (AdA 58 Ad) yX4_endOf cX4_endOf 2 (some .int) 2 [.ref (Ad (3 + 4 * i)), .int p1] σ (σ, (some (.int o))) := by
  refine CT.of mf_X4_endOf (wX_D hA) (Nat.le_of_ble_eq_true rfl) ?_
  intro E xl g
  have ho : ((σ, (some (.int o))) : St × Option Value) = (σ, (some (.int o))) := rfl
  unfold f_X4_endOf at hf
  show XJ E (wX cy Ad σ) 0 [(0, .ref (Ad (3 + 4 * i))), (1, .int p1)] []
  refine x_aload_n g 0 dX4_endOf_0 rfl rfl ?_
  refine x_iload_n g 1 dX4_endOf_1 rfl rfl ?_
  obtain ⟨r1, hgr1, hf⟩ := obind hf
  refine x_callV (r := (RX4, TX4, 3)) g xl [.int p1] [] [.int r1] (c_X4_hasLink hA h_i hgr1) mf_X4_hasLink im_X4_hasLink se_X4_hasLink ml_X4_37 rfl (wx_G h_i) (by decide) (by decide) rfl (Nat.le_of_ble_eq_true rfl) dX4_endOf_2 rfl rfl ?_
  refine x_if_eq g 17 dX4_endOf_5 (by decide) hf (fun c5 hf => ?_) (fun c5 hf => ?_)
  · refine x_iconst g (-1) dX4_endOf_17 (by decide) ?_
    cases hf
    exact x_iret g rfl ho dX4_endOf_18
  · refine x_aload_n g 0 dX4_endOf_8 rfl rfl ?_
    refine x_get g fl_X4_9 (wx_G h_i) rfl dX4_endOf_9 ?_
    refine x_iload_n g 1 dX4_endOf_12 rfl rfl ?_
    refine x_iald g (wx_Ge h_i) dX4_endOf_13 hf (fun hf => ?_)
    refine x_goto g 18 dX4_endOf_14 (by decide) ?_
    cases hf
    exact x_iret g rfl ho dX4_endOf_18
/-! SlotChip$Board.isBroken(I)Z -/
def f_X1_isBroken (σ : St) (p1 : Int32) : Option Int32 :=
  (f_X11_isLinkNumber p1).bind fun r1 =>
  if r1 = 0 then
    some 0
  else
    (chk (inb p1 54) (
      if (σ.1 14 0 (Int32.toNatClampNeg p1)) = 0 then
        some 0
      else
        some 1))
set_option maxHeartbeats 4000000 in
set_option maxRecDepth 100000 in
theorem c_X1_isBroken {l : Launch} {D : va_G} {cy : Nat → ClassId} {Ad : Nat → Nat} (hA : AdOK 58 Ad) {σ : St} {p1 : Int32} {o : Int32} (hf : f_X1_isBroken σ p1 = some o) : CT l (wX cy Ad) D cy (AdA 58 Ad) yX1_isBroken cX1_isBroken 2 (some .boolean) 1 [.ref (Ad 6), .int p1] σ (σ, (some (.int o))) := by
  refine CT.of mf_X1_isBroken (wX_D hA) (Nat.le_of_ble_eq_true rfl) ?_
  intro E xl g
  have ho : ((σ, (some (.int o))) : St × Option Value) = (σ, (some (.int o))) := rfl
  unfold f_X1_isBroken at hf
  show XJ E (wX cy Ad σ) 0 [(0, .ref (Ad 6)), (1, .int p1)] []
  refine x_iload_n g 1 dX1_isBroken_0 rfl rfl ?_
  obtain ⟨r1, hgr1, hf⟩ := obind hf
  refine x_callN g xl [.int p1] [] [.int r1] (c_X11_isLinkNumber hA hgr1) mf_X11_isLinkNumber sm_X11_isLinkNumber nl_X1_59 (by decide) (by decide) rfl (Nat.le_of_ble_eq_true rfl) dX1_isBroken_1 rfl rfl ?_
  refine x_if_eq g 20 dX1_isBroken_4 (by decide) hf (fun c4 hf => ?_) (fun c4 hf => ?_)
  · refine x_iconst g 0 dX1_isBroken_20 (by decide) ?_
    cases hf
    exact x_zret g rfl (by decide) ho dX1_isBroken_21
  · refine x_aload_n g 0 dX1_isBroken_7 rfl rfl ?_
    refine x_get g fl_X1_18 wx_6 rfl dX1_isBroken_8 ?_
    refine x_iload_n g 1 dX1_isBroken_11 rfl rfl ?_
    refine x_zald g wx_9 dX1_isBroken_12 hf (fun hf => ?_)
    refine x_if_eq g 20 dX1_isBroken_13 (by decide) hf (fun c13 hf => ?_) (fun c13 hf => ?_)
    · refine x_iconst g 0 dX1_isBroken_20 (by decide) ?_
      cases hf
      exact x_zret g rfl (by decide) ho dX1_isBroken_21
    · refine x_iconst g 1 dX1_isBroken_16 (by decide) ?_
      refine x_goto g 21 dX1_isBroken_17 (by decide) ?_
      cases hf
      exact x_zret g rfl (by decide) ho dX1_isBroken_21
/-! SlotChip$Board.ownerOf(II)I -/
def f_X1_ownerOf (σ : St) (p1 : Int32) (p2 : Int32) : Option Int32 :=
  (f_X11_isLinkNumber p1).bind fun r1 =>
  if r1 = 0 then
    some (-1)
  else
    (if 0 ≤ p2 then
      (if 10 ≤ p2 then
        some (-1)
      else
        (chk (inb ((10 * p1) + p2) 540) (
          some (σ.1 16 0 (Int32.toNatClampNeg ((10 * p1) + p2))))))
    else
      some (-1))
set_option maxHeartbeats 4000000 in
set_option maxRecDepth 100000 in
theorem c_X1_ownerOf {l : Launch} {D : va_G} {cy : Nat → ClassId} {Ad : Nat → Nat} (hA : AdOK 58 Ad) {σ : St} {p1 : Int32} {p2 : Int32} {o : Int32} (hf : f_X1_ownerOf σ p1 p2 = some o) : CT l (wX cy Ad) D cy (AdA 58 Ad) yX1_ownerOf cX1_ownerOf 3 (some .int) 1 [.ref (Ad 6), .int p1, .int p2] σ (σ, (some (.int o))) := by
  refine CT.of mf_X1_ownerOf (wX_D hA) (Nat.le_of_ble_eq_true rfl) ?_
  intro E xl g
  have ho : ((σ, (some (.int o))) : St × Option Value) = (σ, (some (.int o))) := rfl
  unfold f_X1_ownerOf at hf
  show XJ E (wX cy Ad σ) 0 [(0, .ref (Ad 6)), (1, .int p1), (2, .int p2)] []
  refine x_iload_n g 1 dX1_ownerOf_0 rfl rfl ?_
  obtain ⟨r1, hgr1, hf⟩ := obind hf
  refine x_callN g xl [.int p1] [] [.int r1] (c_X11_isLinkNumber hA hgr1) mf_X11_isLinkNumber sm_X11_isLinkNumber nl_X1_59 (by decide) (by decide) rfl (Nat.le_of_ble_eq_true rfl) dX1_ownerOf_1 rfl rfl ?_
  refine x_if_eq g 17 dX1_ownerOf_4 (by decide) hf (fun c4 hf => ?_) (fun c4 hf => ?_)
  · refine x_iconst g (-1) dX1_ownerOf_17 (by decide) ?_
    cases hf
    exact x_iret g rfl ho dX1_ownerOf_18
  · refine x_iload_n g 2 dX1_ownerOf_7 rfl rfl ?_
    refine x_if_lt g 17 dX1_ownerOf_8 (by decide) hf (fun c8 hf => ?_) (fun c8 hf => ?_)
    · refine x_iload_n g 2 dX1_ownerOf_11 rfl rfl ?_
      refine x_bipush g 10 dX1_ownerOf_12 (by decide) ?_
      refine x_icmp_lt g 19 dX1_ownerOf_14 (by decide) hf (fun c14 hf => ?_) (fun c14 hf => ?_)
      · refine x_iconst g (-1) dX1_ownerOf_17 (by decide) ?_
        cases hf
        exact x_iret g rfl ho dX1_ownerOf_18
      · refine x_aload_n g 0 dX1_ownerOf_19 rfl rfl ?_
        refine x_get g fl_X1_26 wx_6 rfl dX1_ownerOf_20 ?_
        refine x_bipush g 10 dX1_ownerOf_23 (by decide) ?_
        refine x_iload_n g 1 dX1_ownerOf_25 rfl rfl ?_
        refine x_imul g dX1_ownerOf_26 ?_
        refine x_iload_n g 2 dX1_ownerOf_27 rfl rfl ?_
        refine x_iadd g dX1_ownerOf_28 ?_
        refine x_iald g wx_11 dX1_ownerOf_29 hf (fun hf => ?_)
        cases hf
        exact x_iret g rfl ho dX1_ownerOf_30
    · refine x_iconst g (-1) dX1_ownerOf_17 (by decide) ?_
      cases hf
      exact x_iret g rfl ho dX1_ownerOf_18
/-! SlotChip$Board.slotsHad(I)I -/
def f_X1_slotsHad_L4b (σ : St) (v1 : Int32) (K4 : Int32 → Int32 → Option Int32) (v2 : Int32) (v3 : Int32) : Option Int32 :=
  if v3 < (σ.1 1 0 1) then
    ((f_X1_ownerOf σ v1 v3).bind fun r1 =>
    if r1 = (-1) then
      K4 v2 (v3 + 1)
    else
      K4 (v2 + 1) (v3 + 1))
  else
    some v2
def f_X1_slotsHad_L4 (σ : St) (v1 : Int32) : Nat → Int32 → Int32 → Option Int32
  | 0 => fun _ _ => none
  | n + 1 => f_X1_slotsHad_L4b σ v1 (f_X1_slotsHad_L4 σ v1 n)
def f_X1_slotsHad (σ : St) (p1 : Int32) : Option Int32 :=
  f_X1_slotsHad_L4 σ p1 FU 0 0
set_option maxHeartbeats 4000000 in
set_option maxRecDepth 100000 in
theorem l_X1_slotsHad_L4 {E : EV} {l : Launch} {D : va_G} {cy : Nat → ClassId} {Ad : Nat → Nat} {out : St × Option Value} {o : Int32} (hA : AdOK 58 Ad) (xl : XL E l D (AdA 58 Ad)) (g : XG E (wX cy Ad) cy cX1_slotsHad RX1 4 2 (some .int) out) (σ : St) (v1 : Int32) (ho : out = (σ, (some (.int o)))) : ∀ (n : Nat) (v2 : Int32) (v3 : Int32), f_X1_slotsHad_L4 σ v1 n v2 v3 = some o → XJ E (wX cy Ad σ) 4 [(0, .ref (Ad 6)), (1, .int v1), (2, .int v2), (3, .int v3)] [] := by
  intro n
  induction n with
  | zero => intro _ _ hf; cases hf
  | succ n ih4 =>
    intro v2 v3 hf
    replace hf : f_X1_slotsHad_L4b σ v1 (f_X1_slotsHad_L4 σ v1 n) v2 v3 = some o := hf
    unfold f_X1_slotsHad_L4b at hf
    refine x_iload_n g 3 dX1_slotsHad_4 rfl rfl ?_
    refine x_aload_n g 0 dX1_slotsHad_5 rfl rfl ?_
    refine x_get g fl_X1_45 wx_6 rfl dX1_slotsHad_6 ?_
    refine x_icmp_ge g 31 dX1_slotsHad_9 (by decide) hf (fun c9 hf => ?_) (fun c9 hf => ?_)
    · refine x_aload_n g 0 dX1_slotsHad_12 rfl rfl ?_
      refine x_iload_n g 1 dX1_slotsHad_13 rfl rfl ?_
      refine x_iload_n g 3 dX1_slotsHad_14 rfl rfl ?_
      obtain ⟨r1, hgr1, hf⟩ := obind hf
      refine x_callV (r := (RX1, TX1, 6)) g xl [.int v1, .int v3] [] [.int r1] (c_X1_ownerOf hA hgr1) mf_X1_ownerOf im_X1_ownerOf se_X1_ownerOf ml_X1_82 rfl wx_6 (by decide) (by decide) rfl (Nat.le_of_ble_eq_true rfl) dX1_slotsHad_15 rfl rfl ?_
      refine x_iconst g (-1) dX1_slotsHad_18 (by decide) ?_
      refine x_icmp_eq g 25 dX1_slotsHad_19 (by decide) hf (fun c19 hf => ?_) (fun c19 hf => ?_)
      · refine x_iinc g 3 (v3 + 1) (lv' := [(3, .int (v3 + 1)), (0, .ref (Ad 6)), (1, .int v1), (2, .int v2)]) dX1_slotsHad_25 rfl (by rfl) (by decide) rfl ?_
        refine x_goto g 4 dX1_slotsHad_28 (by decide) ?_
        exact x_sub [1, 2, 3, 0] rfl (ih4 _ _ hf)
      · refine x_iinc g 2 (v2 + 1) (lv' := [(2, .int (v2 + 1)), (0, .ref (Ad 6)), (1, .int v1), (3, .int v3)]) dX1_slotsHad_22 rfl (by rfl) (by decide) rfl ?_
        refine x_iinc g 3 (v3 + 1) (lv' := [(3, .int (v3 + 1)), (2, .int (v2 + 1)), (0, .ref (Ad 6)), (1, .int v1)]) dX1_slotsHad_25 rfl (by rfl) (by decide) rfl ?_
        refine x_goto g 4 dX1_slotsHad_28 (by decide) ?_
        exact x_sub [2, 3, 1, 0] rfl (ih4 _ _ hf)
    · refine x_iload_n g 2 dX1_slotsHad_31 rfl rfl ?_
      cases hf
      exact x_iret g rfl ho dX1_slotsHad_32
set_option maxHeartbeats 4000000 in
set_option maxRecDepth 100000 in
theorem c_X1_slotsHad {l : Launch} {D : va_G} {cy : Nat → ClassId} {Ad : Nat → Nat} (hA : AdOK 58 Ad) {σ : St} {p1 : Int32} {o : Int32} (hf : f_X1_slotsHad σ p1 = some o) : CT l (wX cy Ad) D cy (AdA 58 Ad) yX1_slotsHad cX1_slotsHad 4 (some .int) 2 [.ref (Ad 6), .int p1] σ (σ, (some (.int o))) := by
  refine CT.of mf_X1_slotsHad (wX_D hA) (Nat.le_of_ble_eq_true rfl) ?_
  intro E xl g
  have ho : ((σ, (some (.int o))) : St × Option Value) = (σ, (some (.int o))) := rfl
  unfold f_X1_slotsHad at hf
  show XJ E (wX cy Ad σ) 0 [(0, .ref (Ad 6)), (1, .int p1)] []
  refine x_iconst g 0 dX1_slotsHad_0 (by decide) ?_
  refine x_istore_n (lv' := [(2, .int 0), (0, .ref (Ad 6)), (1, .int p1)]) g dX1_slotsHad_1 rfl (by decide) rfl ?_
  refine x_iconst g 0 dX1_slotsHad_2 (by decide) ?_
  refine x_istore_n (lv' := [(3, .int 0), (2, .int 0), (0, .ref (Ad 6)), (1, .int p1)]) g dX1_slotsHad_3 rfl (by decide) rfl ?_
  exact x_sub [2, 3, 1, 0] rfl (l_X1_slotsHad_L4 hA xl g _ _ ho FU _ _ hf)
/-! SlotChip$Board.tellLink(II)I -/
def f_X1_tellLink (σ : St) (p1 : Int32) (p2 : Int32) : Option Int32 :=
  if p2 = 0 then
    ((f_X4_endOf σ 1 p1).bind fun r1 =>
    some r1)
  else
    (if p2 = 1 then
      ((f_X1_isBroken σ p1).bind fun r2 =>
      if r2 = 0 then
        some 0
      else
        some 1)
    else
      (if p2 = 2 then
        ((f_X1_slotsHad σ p1).bind fun r3 =>
        some r3)
      else
        ((f_X11_isLinkNumber p1).bind fun r4 =>
        if r4 = 0 then
          some 0
        else
          (chk (inb p1 54) (
            some (σ.1 15 0 (Int32.toNatClampNeg p1)))))))
set_option maxHeartbeats 4000000 in
set_option maxRecDepth 100000 in
theorem c_X1_tellLink {l : Launch} {D : va_G} {cy : Nat → ClassId} {Ad : Nat → Nat} (hA : AdOK 58 Ad) {σ : St} {p1 : Int32} {p2 : Int32} {o : Int32} (hf : f_X1_tellLink σ p1 p2 = some o) : CT l (wX cy Ad) D cy (AdA 58 Ad) yX1_tellLink cX1_tellLink 3 (some .int) 3 [.ref (Ad 6), .int p1, .int p2] σ (σ, (some (.int o))) := by
  refine CT.of mf_X1_tellLink (wX_D hA) (Nat.le_of_ble_eq_true rfl) ?_
  intro E xl g
  have ho : ((σ, (some (.int o))) : St × Option Value) = (σ, (some (.int o))) := rfl
  unfold f_X1_tellLink at hf
  show XJ E (wX cy Ad σ) 0 [(0, .ref (Ad 6)), (1, .int p1), (2, .int p2)] []
  refine x_iload_n g 2 dX1_tellLink_0 rfl rfl ?_
  refine sp hf (fun n_1_0 hf => ?_) (fun n_1_0 hf => ?_)
  · refine x_tin g 0 27 28 dX1_tellLink_1 n_1_0 (by decide) ?_
    refine x_aload_n g 0 dX1_tellLink_28 rfl rfl ?_
    refine x_get g fl_X1_12 wx_6 rfl dX1_tellLink_29 ?_
    refine x_iload_n g 1 dX1_tellLink_32 rfl rfl ?_
    obtain ⟨r1, hgr1, hf⟩ := obind hf
    refine x_callV (r := (RX4, TX4, 3)) g xl [.int p1] [] [.int r1] (c_X4_endOf hA (by decide) hgr1) mf_X4_endOf im_X4_endOf se_X4_endOf ml_X1_99 rfl wx_7 (by decide) (by decide) rfl (Nat.le_of_ble_eq_true rfl) dX1_tellLink_33 rfl rfl ?_
    cases hf
    exact x_iret g rfl ho dX1_tellLink_36
  · refine sp hf (fun n_1_1 hf => ?_) (fun n_1_1 hf => ?_)
    · refine x_tin g 1 36 37 dX1_tellLink_1 n_1_1 (by decide) ?_
      refine x_aload_n g 0 dX1_tellLink_37 rfl rfl ?_
      refine x_iload_n g 1 dX1_tellLink_38 rfl rfl ?_
      obtain ⟨r2, hgr2, hf⟩ := obind hf
      refine x_callV (r := (RX1, TX1, 6)) g xl [.int p1] [] [.int r2] (c_X1_isBroken hA hgr2) mf_X1_isBroken im_X1_isBroken se_X1_isBroken ml_X1_102 rfl wx_6 (by decide) (by decide) rfl (Nat.le_of_ble_eq_true rfl) dX1_tellLink_39 rfl rfl ?_
      refine x_if_eq g 49 dX1_tellLink_42 (by decide) hf (fun c42 hf => ?_) (fun c42 hf => ?_)
      · refine x_iconst g 0 dX1_tellLink_49 (by decide) ?_
        cases hf
        exact x_iret g rfl ho dX1_tellLink_50
      · refine x_iconst g 1 dX1_tellLink_45 (by decide) ?_
        refine x_goto g 50 dX1_tellLink_46 (by decide) ?_
        cases hf
        exact x_iret g rfl ho dX1_tellLink_50
    · refine sp hf (fun n_1_2 hf => ?_) (fun n_1_2 hf => ?_)
      · refine x_tin g 2 50 51 dX1_tellLink_1 n_1_2 (by decide) ?_
        refine x_aload_n g 0 dX1_tellLink_51 rfl rfl ?_
        refine x_iload_n g 1 dX1_tellLink_52 rfl rfl ?_
        obtain ⟨r3, hgr3, hf⟩ := obind hf
        refine x_callV (r := (RX1, TX1, 6)) g xl [.int p1] [] [.int r3] (c_X1_slotsHad hA hgr3) mf_X1_slotsHad im_X1_slotsHad se_X1_slotsHad ml_X1_105 rfl wx_6 (by decide) (by decide) rfl (Nat.le_of_ble_eq_true rfl) dX1_tellLink_53 rfl rfl ?_
        cases hf
        exact x_iret g rfl ho dX1_tellLink_56
      · refine x_tout g 57 dX1_tellLink_1 (by have e0 := tI n_1_0 (by decide : (0 : Int32).toInt = 0); have e1 := tI n_1_1 (by decide : (1 : Int32).toInt = 1); have e2 := tI n_1_2 (by decide : (2 : Int32).toInt = 2); omega) (by decide) ?_
        refine x_iload_n g 1 dX1_tellLink_57 rfl rfl ?_
        obtain ⟨r4, hgr4, hf⟩ := obind hf
        refine x_callN g xl [.int p1] [] [.int r4] (c_X11_isLinkNumber hA hgr4) mf_X11_isLinkNumber sm_X11_isLinkNumber nl_X1_59 (by decide) (by decide) rfl (Nat.le_of_ble_eq_true rfl) dX1_tellLink_58 rfl rfl ?_
        refine x_if_eq g 73 dX1_tellLink_61 (by decide) hf (fun c61 hf => ?_) (fun c61 hf => ?_)
        · refine x_iconst g 0 dX1_tellLink_73 (by decide) ?_
          cases hf
          exact x_iret g rfl ho dX1_tellLink_74
        · refine x_aload_n g 0 dX1_tellLink_64 rfl rfl ?_
          refine x_get g fl_X1_22 wx_6 rfl dX1_tellLink_65 ?_
          refine x_iload_n g 1 dX1_tellLink_68 rfl rfl ?_
          refine x_iald g wx_10 dX1_tellLink_69 hf (fun hf => ?_)
          refine x_goto g 74 dX1_tellLink_70 (by decide) ?_
          cases hf
          exact x_iret g rfl ho dX1_tellLink_74
/-! SlotChip.link(II)I -/
def f_X11_link (σ : St) (p1 : Int32) (p2 : Int32) : Option Int32 :=
  (f_X4_hasLink σ 1 p1).bind fun r1 =>
  if r1 = 0 then
    some (-101)
  else
    (if 0 ≤ p2 then
      (if 3 < p2 then
        some (-102)
      else
        ((f_X1_tellLink σ p1 p2).bind fun r2 =>
        some r2))
    else
      some (-102))
set_option maxHeartbeats 4000000 in
set_option maxRecDepth 100000 in
theorem c_X11_link {l : Launch} {D : va_G} {cy : Nat → ClassId} {Ad : Nat → Nat} (hA : AdOK 58 Ad) {σ : St} {p1 : Int32} {p2 : Int32} {o : Int32} (hf : f_X11_link σ p1 p2 = some o) : CT l (wX cy Ad) D cy (AdA 58 Ad) yX11_link cX11_link 3 (some .int) 4 [.ref (Ad 0), .int p1, .int p2] σ (σ, (some (.int o))) := by
  refine CT.of mf_X11_link (wX_D hA) (Nat.le_of_ble_eq_true rfl) ?_
  intro E xl g
  have ho : ((σ, (some (.int o))) : St × Option Value) = (σ, (some (.int o))) := rfl
  unfold f_X11_link at hf
  show XJ E (wX cy Ad σ) 0 [(0, .ref (Ad 0)), (1, .int p1), (2, .int p2)] []
  refine x_aload_n g 0 dX11_link_0 rfl rfl ?_
  refine x_get g fl_X11_19 wx_0 rfl dX11_link_1 ?_
  refine x_get g fl_X11_82 wx_6 rfl dX11_link_4 ?_
  refine x_iload_n g 1 dX11_link_7 rfl rfl ?_
  obtain ⟨r1, hgr1, hf⟩ := obind hf
  refine x_callV (r := (RX4, TX4, 3)) g xl [.int p1] [] [.int r1] (c_X4_hasLink hA (by decide) hgr1) mf_X4_hasLink im_X4_hasLink se_X4_hasLink ml_X11_99 rfl wx_7 (by decide) (by decide) rfl (Nat.le_of_ble_eq_true rfl) dX11_link_8 rfl rfl ?_
  refine x_if_ne g 17 dX11_link_11 (by decide) hf (fun c11 hf => ?_) (fun c11 hf => ?_)
  · refine x_bipush g (-101) dX11_link_14 (by decide) ?_
    cases hf
    exact x_iret g rfl ho dX11_link_16
  · refine x_iload_n g 2 dX11_link_17 rfl rfl ?_
    refine x_if_lt g 26 dX11_link_18 (by decide) hf (fun c18 hf => ?_) (fun c18 hf => ?_)
    · refine x_iload_n g 2 dX11_link_21 rfl rfl ?_
      refine x_iconst g 3 dX11_link_22 (by decide) ?_
      refine x_icmp_le g 31 dX11_link_23 (by decide) hf (fun c23 hf => ?_) (fun c23 hf => ?_)
      · refine x_bipush g (-102) dX11_link_26 (by decide) ?_
        refine x_goto g 40 dX11_link_28 (by decide) ?_
        cases hf
        exact x_iret g rfl ho dX11_link_40
      · refine x_aload_n g 0 dX11_link_31 rfl rfl ?_
        refine x_get g fl_X11_19 wx_0 rfl dX11_link_32 ?_
        refine x_iload_n g 1 dX11_link_35 rfl rfl ?_
        refine x_iload_n g 2 dX11_link_36 rfl rfl ?_
        obtain ⟨r2, hgr2, hf⟩ := obind hf
        refine x_callV (r := (RX1, TX1, 6)) g xl [.int p1, .int p2] [] [.int r2] (c_X1_tellLink hA hgr2) mf_X1_tellLink im_X1_tellLink se_X1_tellLink ml_X11_102 rfl wx_6 (by decide) (by decide) rfl (Nat.le_of_ble_eq_true rfl) dX11_link_37 rfl rfl ?_
        cases hf
        exact x_iret g rfl ho dX11_link_40
    · refine x_bipush g (-102) dX11_link_26 (by decide) ?_
      refine x_goto g 40 dX11_link_28 (by decide) ?_
      cases hf
      exact x_iret g rfl ho dX11_link_40
/-! SlotChip.slot(II)I -/
def f_X11_slot (σ : St) (p1 : Int32) (p2 : Int32) : Option Int32 :=
  (f_X4_hasLink σ 1 p1).bind fun r1 =>
  if r1 = 0 then
    some (-101)
  else
    (if 0 ≤ p2 then
      (if (σ.1 1 0 1) ≤ p2 then
        some (-101)
      else
        ((f_X1_ownerOf σ p1 p2).bind fun r2 =>
        some r2))
    else
      some (-101))
set_option maxHeartbeats 4000000 in
set_option maxRecDepth 100000 in
theorem c_X11_slot {l : Launch} {D : va_G} {cy : Nat → ClassId} {Ad : Nat → Nat} (hA : AdOK 58 Ad) {σ : St} {p1 : Int32} {p2 : Int32} {o : Int32} (hf : f_X11_slot σ p1 p2 = some o) : CT l (wX cy Ad) D cy (AdA 58 Ad) yX11_slot cX11_slot 3 (some .int) 2 [.ref (Ad 0), .int p1, .int p2] σ (σ, (some (.int o))) := by
  refine CT.of mf_X11_slot (wX_D hA) (Nat.le_of_ble_eq_true rfl) ?_
  intro E xl g
  have ho : ((σ, (some (.int o))) : St × Option Value) = (σ, (some (.int o))) := rfl
  unfold f_X11_slot at hf
  show XJ E (wX cy Ad σ) 0 [(0, .ref (Ad 0)), (1, .int p1), (2, .int p2)] []
  refine x_aload_n g 0 dX11_slot_0 rfl rfl ?_
  refine x_get g fl_X11_19 wx_0 rfl dX11_slot_1 ?_
  refine x_get g fl_X11_82 wx_6 rfl dX11_slot_4 ?_
  refine x_iload_n g 1 dX11_slot_7 rfl rfl ?_
  obtain ⟨r1, hgr1, hf⟩ := obind hf
  refine x_callV (r := (RX4, TX4, 3)) g xl [.int p1] [] [.int r1] (c_X4_hasLink hA (by decide) hgr1) mf_X4_hasLink im_X4_hasLink se_X4_hasLink ml_X11_99 rfl wx_7 (by decide) (by decide) rfl (Nat.le_of_ble_eq_true rfl) dX11_slot_8 rfl rfl ?_
  refine x_if_eq g 29 dX11_slot_11 (by decide) hf (fun c11 hf => ?_) (fun c11 hf => ?_)
  · refine x_bipush g (-101) dX11_slot_29 (by decide) ?_
    cases hf
    exact x_iret g rfl ho dX11_slot_31
  · refine x_iload_n g 2 dX11_slot_14 rfl rfl ?_
    refine x_if_lt g 29 dX11_slot_15 (by decide) hf (fun c15 hf => ?_) (fun c15 hf => ?_)
    · refine x_iload_n g 2 dX11_slot_18 rfl rfl ?_
      refine x_aload_n g 0 dX11_slot_19 rfl rfl ?_
      refine x_get g fl_X11_19 wx_0 rfl dX11_slot_20 ?_
      refine x_get g fl_X11_106 wx_6 rfl dX11_slot_23 ?_
      refine x_icmp_lt g 32 dX11_slot_26 (by decide) hf (fun c26 hf => ?_) (fun c26 hf => ?_)
      · refine x_bipush g (-101) dX11_slot_29 (by decide) ?_
        cases hf
        exact x_iret g rfl ho dX11_slot_31
      · refine x_aload_n g 0 dX11_slot_32 rfl rfl ?_
        refine x_get g fl_X11_19 wx_0 rfl dX11_slot_33 ?_
        refine x_iload_n g 1 dX11_slot_36 rfl rfl ?_
        refine x_iload_n g 2 dX11_slot_37 rfl rfl ?_
        obtain ⟨r2, hgr2, hf⟩ := obind hf
        refine x_callV (r := (RX1, TX1, 6)) g xl [.int p1, .int p2] [] [.int r2] (c_X1_ownerOf hA hgr2) mf_X1_ownerOf im_X1_ownerOf se_X1_ownerOf ml_X11_109 rfl wx_6 (by decide) (by decide) rfl (Nat.le_of_ble_eq_true rfl) dX11_slot_38 rfl rfl ?_
        cases hf
        exact x_iret g rfl ho dX11_slot_41
    · refine x_bipush g (-101) dX11_slot_29 (by decide) ?_
      cases hf
      exact x_iret g rfl ho dX11_slot_31
/-! SlotChip$Board.setBroken(IZ)V -/
def f_X1_setBroken (σ : St) (p1 : Int32) (p2 : Int32) : Option St :=
  (f_X11_isLinkNumber p1).bind fun r1 =>
  if r1 = 0 then
    some σ
  else
    (chk (inb p1 54) (
      bnd (si σ 14 0 (Int32.toNatClampNeg p1) (p2 &&& 1)) fun σ2 =>
      some σ2))
set_option maxHeartbeats 4000000 in
set_option maxRecDepth 100000 in
theorem c_X1_setBroken {l : Launch} {D : va_G} {cy : Nat → ClassId} {Ad : Nat → Nat} (hA : AdOK 58 Ad) {σ : St} {p1 : Int32} {p2 : Int32} {o : St} (hf : f_X1_setBroken σ p1 p2 = some o) : CT l (wX cy Ad) D cy (AdA 58 Ad) yX1_setBroken cX1_setBroken 3 none 1 [.ref (Ad 6), .int p1, .int p2] σ (o, none) := by
  refine CT.of mf_X1_setBroken (wX_D hA) (Nat.le_of_ble_eq_true rfl) ?_
  intro E xl g
  have ho : ((o, none) : St × Option Value) = (o, none) := rfl
  unfold f_X1_setBroken at hf
  show XJ E (wX cy Ad σ) 0 [(0, .ref (Ad 6)), (1, .int p1), (2, .int p2)] []
  refine x_iload_n g 1 dX1_setBroken_0 rfl rfl ?_
  obtain ⟨r1, hgr1, hf⟩ := obind hf
  refine x_callN g xl [.int p1] [] [.int r1] (c_X11_isLinkNumber hA hgr1) mf_X11_isLinkNumber sm_X11_isLinkNumber nl_X1_59 (by decide) (by decide) rfl (Nat.le_of_ble_eq_true rfl) dX1_setBroken_1 rfl rfl ?_
  refine x_if_eq g 14 dX1_setBroken_4 (by decide) hf (fun c4 hf => ?_) (fun c4 hf => ?_)
  · cases hf
    exact x_vret g rfl ho dX1_setBroken_14
  · refine x_aload_n g 0 dX1_setBroken_7 rfl rfl ?_
    refine x_get g fl_X1_18 wx_6 rfl dX1_setBroken_8 ?_
    refine x_iload_n g 1 dX1_setBroken_11 rfl rfl ?_
    refine x_iload_n g 2 dX1_setBroken_12 rfl rfl ?_
    refine x_zastB g (p2 &&& 1) rfl wx_9 (sx_9 _ _) dX1_setBroken_13 hf (fun σ2 hf => ?_)
    cases hf
    exact x_vret g rfl ho dX1_setBroken_14
/-! SlotChip.cut(IZ)I -/
def f_X11_cut (σ : St) (p1 : Int32) (p2 : Int32) : Option (St × Int32) :=
  (f_X4_hasInnerLink σ 1 p1).bind fun r1 =>
  if r1 = 0 then
    some (σ, (-101))
  else
    ((f_X1_isBroken σ p1).bind fun r2 =>
    if r2 = p2 then
      some (σ, (-103))
    else
      ((f_X1_slotsHad σ p1).bind fun r3 =>
      if 0 < r3 then
        some (σ, (-103))
      else
        ((f_X1_setBroken σ p1 p2).bind fun σ5 =>
        (f_X1_brokenLinks σ5).bind fun r6 =>
        some (σ5, r6))))
set_option maxHeartbeats 4000000 in
set_option maxRecDepth 100000 in
theorem c_X11_cut {l : Launch} {D : va_G} {cy : Nat → ClassId} {Ad : Nat → Nat} (hA : AdOK 58 Ad) {σ : St} {p1 : Int32} {p2 : Int32} {o : (St × Int32)} (hf : f_X11_cut σ p1 p2 = some o) : CT l (wX cy Ad) D cy (AdA 58 Ad) yX11_cut cX11_cut 3 (some .int) 3 [.ref (Ad 0), .int p1, .int p2] σ (o.1, (some (.int o.2))) := by
  refine CT.of mf_X11_cut (wX_D hA) (Nat.le_of_ble_eq_true rfl) ?_
  intro E xl g
  have ho : ((o.1, (some (.int o.2))) : St × Option Value) = (o.1, (some (.int o.2))) := rfl
  unfold f_X11_cut at hf
  show XJ E (wX cy Ad σ) 0 [(0, .ref (Ad 0)), (1, .int p1), (2, .int p2)] []
  refine x_aload_n g 0 dX11_cut_0 rfl rfl ?_
  refine x_get g fl_X11_19 wx_0 rfl dX11_cut_1 ?_
  refine x_get g fl_X11_82 wx_6 rfl dX11_cut_4 ?_
  refine x_iload_n g 1 dX11_cut_7 rfl rfl ?_
  obtain ⟨r1, hgr1, hf⟩ := obind hf
  refine x_callV (r := (RX4, TX4, 3)) g xl [.int p1] [] [.int r1] (c_X4_hasInnerLink hA (by decide) hgr1) mf_X4_hasInnerLink im_X4_hasInnerLink se_X4_hasInnerLink ml_X11_112 rfl wx_7 (by decide) (by decide) rfl (Nat.le_of_ble_eq_true rfl) dX11_cut_8 rfl rfl ?_
  refine x_if_ne g 17 dX11_cut_11 (by decide) hf (fun c11 hf => ?_) (fun c11 hf => ?_)
  · refine x_bipush g (-101) dX11_cut_14 (by decide) ?_
    cases hf
    exact x_iret g rfl ho dX11_cut_16
  · refine x_aload_n g 0 dX11_cut_17 rfl rfl ?_
    refine x_get g fl_X11_19 wx_0 rfl dX11_cut_18 ?_
    refine x_iload_n g 1 dX11_cut_21 rfl rfl ?_
    obtain ⟨r2, hgr2, hf⟩ := obind hf
    refine x_callV (r := (RX1, TX1, 6)) g xl [.int p1] [] [.int r2] (c_X1_isBroken hA hgr2) mf_X1_isBroken im_X1_isBroken se_X1_isBroken ml_X11_115 rfl wx_6 (by decide) (by decide) rfl (Nat.le_of_ble_eq_true rfl) dX11_cut_22 rfl rfl ?_
    refine x_iload_n g 2 dX11_cut_25 rfl rfl ?_
    refine x_icmp_eq g 40 dX11_cut_26 (by decide) hf (fun c26 hf => ?_) (fun c26 hf => ?_)
    · refine x_bipush g (-103) dX11_cut_40 (by decide) ?_
      cases hf
      exact x_iret g rfl ho dX11_cut_42
    · refine x_aload_n g 0 dX11_cut_29 rfl rfl ?_
      refine x_get g fl_X11_19 wx_0 rfl dX11_cut_30 ?_
      refine x_iload_n g 1 dX11_cut_33 rfl rfl ?_
      obtain ⟨r3, hgr3, hf⟩ := obind hf
      refine x_callV (r := (RX1, TX1, 6)) g xl [.int p1] [] [.int r3] (c_X1_slotsHad hA hgr3) mf_X1_slotsHad im_X1_slotsHad se_X1_slotsHad ml_X11_118 rfl wx_6 (by decide) (by decide) rfl (Nat.le_of_ble_eq_true rfl) dX11_cut_34 rfl rfl ?_
      refine x_if_le g 43 dX11_cut_37 (by decide) hf (fun c37 hf => ?_) (fun c37 hf => ?_)
      · refine x_bipush g (-103) dX11_cut_40 (by decide) ?_
        cases hf
        exact x_iret g rfl ho dX11_cut_42
      · refine x_aload_n g 0 dX11_cut_43 rfl rfl ?_
        refine x_get g fl_X11_19 wx_0 rfl dX11_cut_44 ?_
        refine x_iload_n g 1 dX11_cut_47 rfl rfl ?_
        refine x_iload_n g 2 dX11_cut_48 rfl rfl ?_
        obtain ⟨σ5, hgr4, hf⟩ := obind hf
        refine x_callV (r := (RX1, TX1, 6)) g xl [.int p1, .int p2] [] [] (c_X1_setBroken hA hgr4) mf_X1_setBroken im_X1_setBroken se_X1_setBroken ml_X11_121 rfl wx_6 (by decide) (by decide) rfl (Nat.le_of_ble_eq_true rfl) dX11_cut_49 rfl rfl ?_
        refine x_aload_n g 0 dX11_cut_52 rfl rfl ?_
        refine x_get g fl_X11_19 wx_0 rfl dX11_cut_53 ?_
        obtain ⟨r6, hgr6, hf⟩ := obind hf
        refine x_callV (r := (RX1, TX1, 6)) g xl [] [] [.int r6] (c_X1_brokenLinks hA hgr6) mf_X1_brokenLinks im_X1_brokenLinks se_X1_brokenLinks ml_X11_125 rfl wx_6 (by decide) (by decide) rfl (Nat.le_of_ble_eq_true rfl) dX11_cut_56 rfl rfl ?_
        cases hf
        exact x_iret g rfl ho dX11_cut_59
/-! SlotChip.isKind(I)Z -/
def f_X11_isKind (p1 : Int32) : Option Int32 :=
  if 0 ≤ p1 then
    (if p1 ≤ 4 then
      some 1
    else
      some 0)
  else
    some 0
set_option maxHeartbeats 4000000 in
set_option maxRecDepth 100000 in
theorem c_X11_isKind {l : Launch} {D : va_G} {cy : Nat → ClassId} {Ad : Nat → Nat} (hA : AdOK 58 Ad) {σ : St} {p1 : Int32} {o : Int32} (hf : f_X11_isKind p1 = some o) : CT l (wX cy Ad) D cy (AdA 58 Ad) yX11_isKind cX11_isKind 1 (some .boolean) 0 [.int p1] σ (σ, (some (.int o))) := by
  refine CT.of mf_X11_isKind (wX_D hA) (Nat.le_of_ble_eq_true rfl) ?_
  intro E xl g
  have ho : ((σ, (some (.int o))) : St × Option Value) = (σ, (some (.int o))) := rfl
  unfold f_X11_isKind at hf
  show XJ E (wX cy Ad σ) 0 [(0, .int p1)] []
  refine x_iload_n g 0 dX11_isKind_0 rfl rfl ?_
  refine x_if_lt g 13 dX11_isKind_1 (by decide) hf (fun c1 hf => ?_) (fun c1 hf => ?_)
  · refine x_iload_n g 0 dX11_isKind_4 rfl rfl ?_
    refine x_iconst g 4 dX11_isKind_5 (by decide) ?_
    refine x_icmp_gt g 13 dX11_isKind_6 (by decide) hf (fun c6 hf => ?_) (fun c6 hf => ?_)
    · refine x_iconst g 1 dX11_isKind_9 (by decide) ?_
      refine x_goto g 14 dX11_isKind_10 (by decide) ?_
      cases hf
      exact x_zret g rfl (by decide) ho dX11_isKind_14
    · refine x_iconst g 0 dX11_isKind_13 (by decide) ?_
      cases hf
      exact x_zret g rfl (by decide) ho dX11_isKind_14
  · refine x_iconst g 0 dX11_isKind_13 (by decide) ?_
    cases hf
    exact x_zret g rfl (by decide) ho dX11_isKind_14
/-! SlotChip$Circuits.firstUnused()LSlotChip$Circuit; -/
def f_X3_firstUnused_L2b (σ : St) (K2 : Int32 → Option (Option Nat)) (v1 : Int32) : Option (Option Nat) :=
  if v1 < 8 then
    (chk (inb v1 8) (
      if (σ.1 2 (Int32.toNatClampNeg v1) 1) = 0 then
        (chk (inb v1 8) (
          some (some (Int32.toNatClampNeg v1))))
      else
        K2 (v1 + 1)))
  else
    some none
def f_X3_firstUnused_L2 (σ : St) : Nat → Int32 → Option (Option Nat)
  | 0 => fun _ => none
  | n + 1 => f_X3_firstUnused_L2b σ (f_X3_firstUnused_L2 σ n)
def f_X3_firstUnused (σ : St) : Option (Option Nat) :=
  f_X3_firstUnused_L2 σ FU 0
set_option maxHeartbeats 4000000 in
set_option maxRecDepth 100000 in
theorem l_X3_firstUnused_L2 {E : EV} {l : Launch} {D : va_G} {cy : Nat → ClassId} {Ad : Nat → Nat} {out : St × Option Value} {o : (Option Nat)} (hA : AdOK 58 Ad) (xl : XL E l D (AdA 58 Ad)) (g : XG E (wX cy Ad) cy cX3_firstUnused RX3 2 0 (some (.object "SlotChip$Circuit")) out) (σ : St) (ho : out = (σ, (some (vC Ad o)))) : ∀ (n : Nat) (v1 : Int32), f_X3_firstUnused_L2 σ n v1 = some o → XJ E (wX cy Ad σ) 2 [(0, .ref (Ad 12)), (1, .int v1)] [] := by
  intro n
  induction n with
  | zero => intro _ hf; cases hf
  | succ n ih2 =>
    intro v1 hf
    replace hf : f_X3_firstUnused_L2b σ (f_X3_firstUnused_L2 σ n) v1 = some o := hf
    unfold f_X3_firstUnused_L2b at hf
    refine x_iload_n g 1 dX3_firstUnused_2 rfl rfl ?_
    refine x_bipush g 8 dX3_firstUnused_3 (by decide) ?_
    refine x_icmp_ge g 33 dX3_firstUnused_5 (by decide) hf (fun c5 hf => ?_) (fun c5 hf => ?_)
    · refine x_aload_n g 0 dX3_firstUnused_8 rfl rfl ?_
      refine x_get g fl_X3_11 wx_12 rfl dX3_firstUnused_9 ?_
      refine x_iload_n g 1 dX3_firstUnused_12 rfl rfl ?_
      have hi1 := inb_lt (chk_some hf).1
      refine x_aald (b := Ad (14 + 3 * (Int32.toNatClampNeg v1))) g (t0 := 2) rfl wx_13 rfl dX3_firstUnused_13 hf (fun hf => ?_)
      refine x_get g fl_X3_20 (wx_C hi1) rfl dX3_firstUnused_14 ?_
      refine x_if_ne g 27 dX3_firstUnused_17 (by decide) hf (fun c17 hf => ?_) (fun c17 hf => ?_)
      · refine x_aload_n g 0 dX3_firstUnused_20 rfl rfl ?_
        refine x_get g fl_X3_11 wx_12 rfl dX3_firstUnused_21 ?_
        refine x_iload_n g 1 dX3_firstUnused_24 rfl rfl ?_
        have hi2 := inb_lt (chk_some hf).1
        refine x_aald (b := Ad (14 + 3 * (Int32.toNatClampNeg v1))) g (t0 := 2) rfl wx_13 rfl dX3_firstUnused_25 hf (fun hf => ?_)
        cases hf
        exact x_aret g rfl (Or.inr ⟨_, rfl⟩) ho dX3_firstUnused_26
      · refine x_iinc g 1 (v1 + 1) (lv' := [(1, .int (v1 + 1)), (0, .ref (Ad 12))]) dX3_firstUnused_27 rfl (by rfl) (by decide) rfl ?_
        refine x_goto g 2 dX3_firstUnused_30 (by decide) ?_
        exact x_sub [1, 0] rfl (ih2 _ hf)
    · refine x_null g dX3_firstUnused_33 ?_
      cases hf
      exact x_aret g rfl (Or.inl rfl) ho dX3_firstUnused_34
set_option maxHeartbeats 4000000 in
set_option maxRecDepth 100000 in
theorem c_X3_firstUnused {l : Launch} {D : va_G} {cy : Nat → ClassId} {Ad : Nat → Nat} (hA : AdOK 58 Ad) {σ : St} {o : (Option Nat)} (hf : f_X3_firstUnused σ = some o) : CT l (wX cy Ad) D cy (AdA 58 Ad) yX3_firstUnused cX3_firstUnused 2 (some (.object "SlotChip$Circuit")) 0 [.ref (Ad 12)] σ (σ, (some (vC Ad o))) := by
  refine CT.of mf_X3_firstUnused (wX_D hA) (Nat.le_of_ble_eq_true rfl) ?_
  intro E xl g
  have ho : ((σ, (some (vC Ad o))) : St × Option Value) = (σ, (some (vC Ad o))) := rfl
  unfold f_X3_firstUnused at hf
  show XJ E (wX cy Ad σ) 0 [(0, .ref (Ad 12))] []
  refine x_iconst g 0 dX3_firstUnused_0 (by decide) ?_
  refine x_istore_n (lv' := [(1, .int 0), (0, .ref (Ad 12))]) g dX3_firstUnused_1 rfl (by decide) rfl ?_
  exact x_sub [1, 0] rfl (l_X3_firstUnused_L2 hA xl g _ ho FU _ hf)
/-! SlotChip$Board.slotOf(II)I -/
def f_X1_slotOf (σ : St) (p1 : Int32) (p2 : Int32) : Option Int32 :=
  if (σ.1 1 0 1) < 1 then
    some 0
  else
    (chk (¬ (σ.1 1 0 1) = 0) (
      some (remI (p1 + p2) (σ.1 1 0 1))))
set_option maxHeartbeats 4000000 in
set_option maxRecDepth 100000 in
theorem c_X1_slotOf {l : Launch} {D : va_G} {cy : Nat → ClassId} {Ad : Nat → Nat} (hA : AdOK 58 Ad) {σ : St} {p1 : Int32} {p2 : Int32} {o : Int32} (hf : f_X1_slotOf σ p1 p2 = some o) : CT l (wX cy Ad) D cy (AdA 58 Ad) yX1_slotOf cX1_slotOf 3 (some .int) 0 [.ref (Ad 6), .int p1, .int p2] σ (σ, (some (.int o))) := by
  refine CT.of mf_X1_slotOf (wX_D hA) (Nat.le_of_ble_eq_true rfl) ?_
  intro E xl g
  have ho : ((σ, (some (.int o))) : St × Option Value) = (σ, (some (.int o))) := rfl
  unfold f_X1_slotOf at hf
  show XJ E (wX cy Ad σ) 0 [(0, .ref (Ad 6)), (1, .int p1), (2, .int p2)] []
  refine x_aload_n g 0 dX1_slotOf_0 rfl rfl ?_
  refine x_get g fl_X1_45 wx_6 rfl dX1_slotOf_1 ?_
  refine x_iconst g 1 dX1_slotOf_4 (by decide) ?_
  refine x_icmp_ge g 12 dX1_slotOf_5 (by decide) hf (fun c5 hf => ?_) (fun c5 hf => ?_)
  · refine x_iconst g 0 dX1_slotOf_8 (by decide) ?_
    refine x_goto g 20 dX1_slotOf_9 (by decide) ?_
    cases hf
    exact x_iret g rfl ho dX1_slotOf_20
  · refine x_iload_n g 1 dX1_slotOf_12 rfl rfl ?_
    refine x_iload_n g 2 dX1_slotOf_13 rfl rfl ?_
    refine x_iadd g dX1_slotOf_14 ?_
    refine x_aload_n g 0 dX1_slotOf_15 rfl rfl ?_
    refine x_get g fl_X1_45 wx_6 rfl dX1_slotOf_16 ?_
    have hz := (chk_some hf).1
    replace hf := (chk_some hf).2
    refine x_irem g dX1_slotOf_19 hz ?_
    cases hf
    exact x_iret g rfl ho dX1_slotOf_20
/-! SlotChip$Board.freeStarts(II)I -/
def f_X1_freeStarts_L5b (σ : St) (v1 : Int32) (v2 : Int32) (K5 : Int32 → Int32 → Option Int32) (v3 : Int32) (v4 : Int32) : Option Int32 :=
  if v4 < (σ.1 1 0 1) then
    ((f_X1_slotOf σ v4 v2).bind fun r1 =>
    (f_X1_ownerOf σ v1 r1).bind fun r2 =>
    if r2 = (-1) then
      (bnd (v3 ||| (1 <<< (v4 &&& 31))) fun y3 =>
      K5 y3 (v4 + 1))
    else
      K5 v3 (v4 + 1))
  else
    some v3
def f_X1_freeStarts_L5 (σ : St) (v1 : Int32) (v2 : Int32) : Nat → Int32 → Int32 → Option Int32
  | 0 => fun _ _ => none
  | n + 1 => f_X1_freeStarts_L5b σ v1 v2 (f_X1_freeStarts_L5 σ v1 v2 n)
def f_X1_freeStarts (σ : St) (p1 : Int32) (p2 : Int32) : Option Int32 :=
  f_X1_freeStarts_L5 σ p1 p2 FU 0 0
set_option maxHeartbeats 4000000 in
set_option maxRecDepth 100000 in
theorem l_X1_freeStarts_L5 {E : EV} {l : Launch} {D : va_G} {cy : Nat → ClassId} {Ad : Nat → Nat} {out : St × Option Value} {o : Int32} (hA : AdOK 58 Ad) (xl : XL E l D (AdA 58 Ad)) (g : XG E (wX cy Ad) cy cX1_freeStarts RX1 5 2 (some .int) out) (σ : St) (v1 : Int32) (v2 : Int32) (ho : out = (σ, (some (.int o)))) : ∀ (n : Nat) (v3 : Int32) (v4 : Int32), f_X1_freeStarts_L5 σ v1 v2 n v3 v4 = some o → XJ E (wX cy Ad σ) 5 [(0, .ref (Ad 6)), (1, .int v1), (2, .int v2), (3, .int v3), (4, .int v4)] [] := by
  intro n
  induction n with
  | zero => intro _ _ hf; cases hf
  | succ n ih5 =>
    intro v3 v4 hf
    replace hf : f_X1_freeStarts_L5b σ v1 v2 (f_X1_freeStarts_L5 σ v1 v2 n) v3 v4 = some o := hf
    unfold f_X1_freeStarts_L5b at hf
    refine x_iload g 4 dX1_freeStarts_5 rfl ?_
    refine x_aload_n g 0 dX1_freeStarts_7 rfl rfl ?_
    refine x_get g fl_X1_45 wx_6 rfl dX1_freeStarts_8 ?_
    refine x_icmp_ge g 43 dX1_freeStarts_11 (by decide) hf (fun c11 hf => ?_) (fun c11 hf => ?_)
    · refine x_aload_n g 0 dX1_freeStarts_14 rfl rfl ?_
      refine x_iload_n g 1 dX1_freeStarts_15 rfl rfl ?_
      refine x_aload_n g 0 dX1_freeStarts_16 rfl rfl ?_
      refine x_iload g 4 dX1_freeStarts_17 rfl ?_
      refine x_iload_n g 2 dX1_freeStarts_19 rfl rfl ?_
      obtain ⟨r1, hgr1, hf⟩ := obind hf
      refine x_callV (r := (RX1, TX1, 6)) g xl [.int v4, .int v2] [.int v1, .ref (Ad 6)] [.int r1, .int v1, .ref (Ad 6)] (c_X1_slotOf hA hgr1) mf_X1_slotOf im_X1_slotOf se_X1_slotOf ml_X1_75 rfl wx_6 (by decide) (by decide) rfl (Nat.le_of_ble_eq_true rfl) dX1_freeStarts_20 rfl rfl ?_
      obtain ⟨r2, hgr2, hf⟩ := obind hf
      refine x_callV (r := (RX1, TX1, 6)) g xl [.int v1, .int r1] [] [.int r2] (c_X1_ownerOf hA hgr2) mf_X1_ownerOf im_X1_ownerOf se_X1_ownerOf ml_X1_82 rfl wx_6 (by decide) (by decide) rfl (Nat.le_of_ble_eq_true rfl) dX1_freeStarts_23 rfl rfl ?_
      refine x_iconst g (-1) dX1_freeStarts_26 (by decide) ?_
      refine x_icmp_ne g 37 dX1_freeStarts_27 (by decide) hf (fun c27 hf => ?_) (fun c27 hf => ?_)
      · refine x_iload_n g 3 dX1_freeStarts_30 rfl rfl ?_
        refine x_iconst g 1 dX1_freeStarts_31 (by decide) ?_
        refine x_iload g 4 dX1_freeStarts_32 rfl ?_
        refine x_ishl g dX1_freeStarts_34 ?_
        refine x_ior g dX1_freeStarts_35 ?_
        refine x_nami hf (fun y3 hf => ?_)
        refine x_istore_n (lv' := [(3, .int y3), (0, .ref (Ad 6)), (1, .int v1), (2, .int v2), (4, .int v4)]) g dX1_freeStarts_36 rfl (by decide) rfl ?_
        refine x_iinc g 4 (v4 + 1) (lv' := [(4, .int (v4 + 1)), (3, .int y3), (0, .ref (Ad 6)), (1, .int v1), (2, .int v2)]) dX1_freeStarts_37 rfl (by rfl) (by decide) rfl ?_
        refine x_goto g 5 dX1_freeStarts_40 (by decide) ?_
        exact x_sub [2, 3, 4, 1, 0] rfl (ih5 _ _ hf)
      · refine x_iinc g 4 (v4 + 1) (lv' := [(4, .int (v4 + 1)), (0, .ref (Ad 6)), (1, .int v1), (2, .int v2), (3, .int v3)]) dX1_freeStarts_37 rfl (by rfl) (by decide) rfl ?_
        refine x_goto g 5 dX1_freeStarts_40 (by decide) ?_
        exact x_sub [1, 2, 3, 4, 0] rfl (ih5 _ _ hf)
    · refine x_iload_n g 3 dX1_freeStarts_43 rfl rfl ?_
      cases hf
      exact x_iret g rfl ho dX1_freeStarts_44
set_option maxHeartbeats 4000000 in
set_option maxRecDepth 100000 in
theorem c_X1_freeStarts {l : Launch} {D : va_G} {cy : Nat → ClassId} {Ad : Nat → Nat} (hA : AdOK 58 Ad) {σ : St} {p1 : Int32} {p2 : Int32} {o : Int32} (hf : f_X1_freeStarts σ p1 p2 = some o) : CT l (wX cy Ad) D cy (AdA 58 Ad) yX1_freeStarts cX1_freeStarts 5 (some .int) 2 [.ref (Ad 6), .int p1, .int p2] σ (σ, (some (.int o))) := by
  refine CT.of mf_X1_freeStarts (wX_D hA) (Nat.le_of_ble_eq_true rfl) ?_
  intro E xl g
  have ho : ((σ, (some (.int o))) : St × Option Value) = (σ, (some (.int o))) := rfl
  unfold f_X1_freeStarts at hf
  show XJ E (wX cy Ad σ) 0 [(0, .ref (Ad 6)), (1, .int p1), (2, .int p2)] []
  refine x_iconst g 0 dX1_freeStarts_0 (by decide) ?_
  refine x_istore_n (lv' := [(3, .int 0), (0, .ref (Ad 6)), (1, .int p1), (2, .int p2)]) g dX1_freeStarts_1 rfl (by decide) rfl ?_
  refine x_iconst g 0 dX1_freeStarts_2 (by decide) ?_
  refine x_istore (lv' := [(4, .int 0), (3, .int 0), (0, .ref (Ad 6)), (1, .int p1), (2, .int p2)]) g dX1_freeStarts_3 (by decide) rfl ?_
  exact x_sub [2, 3, 4, 1, 0] rfl (l_X1_freeStarts_L5 hA xl g _ _ _ ho FU _ _ hf)
/-! java/lang/Integer.bitCount_0f7a4(I)I -/
def f_J6_bitCount_0f7a4 (p1 : Int32) : Option Int32 :=
  bnd (p1 - (((Int32.toUInt32 p1 >>> (Int32.toUInt32 1 &&& Int32.toUInt32 31)).toInt32) &&& 1431655765)) fun y1 =>
  bnd ((y1 &&& 858993459) + (((Int32.toUInt32 y1 >>> (Int32.toUInt32 2 &&& Int32.toUInt32 31)).toInt32) &&& 858993459)) fun y2 =>
  bnd ((y2 + ((Int32.toUInt32 y2 >>> (Int32.toUInt32 4 &&& Int32.toUInt32 31)).toInt32)) &&& 252645135) fun y3 =>
  bnd (y3 + ((Int32.toUInt32 y3 >>> (Int32.toUInt32 8 &&& Int32.toUInt32 31)).toInt32)) fun y4 =>
  bnd (y4 + ((Int32.toUInt32 y4 >>> (Int32.toUInt32 16 &&& Int32.toUInt32 31)).toInt32)) fun y5 =>
  some (y5 &&& 63)
set_option maxHeartbeats 4000000 in
set_option maxRecDepth 100000 in
theorem c_J6_bitCount_0f7a4 {l : Launch} {D : va_G} {cy : Nat → ClassId} {Ad : Nat → Nat} (hA : AdOK 58 Ad) {σ : St} {p1 : Int32} {o : Int32} (hf : f_J6_bitCount_0f7a4 p1 = some o) : CT l (wX cy Ad) D cy (AdA 58 Ad) yJ6_bitCount_0f7a4 cJ6_bitCount_0f7a4 1 (some .int) 0 [.int p1] σ (σ, (some (.int o))) := by
  refine CT.of mf_J6_bitCount_0f7a4 (wX_D hA) (Nat.le_of_ble_eq_true rfl) ?_
  intro E xl g
  have ho : ((σ, (some (.int o))) : St × Option Value) = (σ, (some (.int o))) := rfl
  unfold f_J6_bitCount_0f7a4 at hf
  show XJ E (wX cy Ad σ) 0 [(0, .int p1)] []
  refine x_iload_n g 0 dJ6_bitCount_0f7a4_0 rfl rfl ?_
  refine x_iload_n g 0 dJ6_bitCount_0f7a4_1 rfl rfl ?_
  refine x_iconst g 1 dJ6_bitCount_0f7a4_2 (by decide) ?_
  refine x_iushr g dJ6_bitCount_0f7a4_3 ?_
  refine x_ldcw g kc_J6_265 dJ6_bitCount_0f7a4_4 ?_
  refine x_iand g dJ6_bitCount_0f7a4_7 ?_
  refine x_isub g dJ6_bitCount_0f7a4_8 ?_
  refine x_nami hf (fun y1 hf => ?_)
  refine x_istore_n (lv' := [(0, .int y1)]) g dJ6_bitCount_0f7a4_9 rfl (by decide) rfl ?_
  refine x_iload_n g 0 dJ6_bitCount_0f7a4_10 rfl rfl ?_
  refine x_ldcw g kc_J6_266 dJ6_bitCount_0f7a4_11 ?_
  refine x_iand g dJ6_bitCount_0f7a4_14 ?_
  refine x_iload_n g 0 dJ6_bitCount_0f7a4_15 rfl rfl ?_
  refine x_iconst g 2 dJ6_bitCount_0f7a4_16 (by decide) ?_
  refine x_iushr g dJ6_bitCount_0f7a4_17 ?_
  refine x_ldcw g kc_J6_266 dJ6_bitCount_0f7a4_18 ?_
  refine x_iand g dJ6_bitCount_0f7a4_21 ?_
  refine x_iadd g dJ6_bitCount_0f7a4_22 ?_
  refine x_nami hf (fun y2 hf => ?_)
  refine x_istore_n (lv' := [(0, .int y2)]) g dJ6_bitCount_0f7a4_23 rfl (by decide) rfl ?_
  refine x_iload_n g 0 dJ6_bitCount_0f7a4_24 rfl rfl ?_
  refine x_iload_n g 0 dJ6_bitCount_0f7a4_25 rfl rfl ?_
  refine x_iconst g 4 dJ6_bitCount_0f7a4_26 (by decide) ?_
  refine x_iushr g dJ6_bitCount_0f7a4_27 ?_
  refine x_iadd g dJ6_bitCount_0f7a4_28 ?_
  refine x_ldcw g kc_J6_267 dJ6_bitCount_0f7a4_29 ?_
  refine x_iand g dJ6_bitCount_0f7a4_32 ?_
  refine x_nami hf (fun y3 hf => ?_)
  refine x_istore_n (lv' := [(0, .int y3)]) g dJ6_bitCount_0f7a4_33 rfl (by decide) rfl ?_
  refine x_iload_n g 0 dJ6_bitCount_0f7a4_34 rfl rfl ?_
  refine x_iload_n g 0 dJ6_bitCount_0f7a4_35 rfl rfl ?_
  refine x_bipush g 8 dJ6_bitCount_0f7a4_36 (by decide) ?_
  refine x_iushr g dJ6_bitCount_0f7a4_38 ?_
  refine x_iadd g dJ6_bitCount_0f7a4_39 ?_
  refine x_nami hf (fun y4 hf => ?_)
  refine x_istore_n (lv' := [(0, .int y4)]) g dJ6_bitCount_0f7a4_40 rfl (by decide) rfl ?_
  refine x_iload_n g 0 dJ6_bitCount_0f7a4_41 rfl rfl ?_
  refine x_iload_n g 0 dJ6_bitCount_0f7a4_42 rfl rfl ?_
  refine x_bipush g 16 dJ6_bitCount_0f7a4_43 (by decide) ?_
  refine x_iushr g dJ6_bitCount_0f7a4_45 ?_
  refine x_iadd g dJ6_bitCount_0f7a4_46 ?_
  refine x_nami hf (fun y5 hf => ?_)
  refine x_istore_n (lv' := [(0, .int y5)]) g dJ6_bitCount_0f7a4_47 rfl (by decide) rfl ?_
  refine x_iload_n g 0 dJ6_bitCount_0f7a4_48 rfl rfl ?_
  refine x_bipush g 63 dJ6_bitCount_0f7a4_49 (by decide) ?_
  refine x_iand g dJ6_bitCount_0f7a4_51 ?_
  cases hf
  exact x_iret g rfl ho dJ6_bitCount_0f7a4_52
/-! SlotChip$Starts.gapOf(II)I -/
def f_X7_gapOf_L7b (v0 : Int32) (v1 : Int32) (K7 : Int32 → Int32 → Int32 → Option Int32) (v2 : Int32) (v3 : Int32) (v4 : Int32) : Option Int32 :=
  if v4 < (2 * v1) then
    (if v4 < v1 then
      (if ((v0 >>> (v4 &&& 31)) &&& 1) = 1 then
        (if v3 = (-1) then
          K7 v2 v4 (v4 + 1)
        else
          (bnd (if v2 < (v4 - v3) then (v4 - v3) else v2) fun y1 =>
          K7 y1 v4 (v4 + 1)))
      else
        K7 v2 v3 (v4 + 1))
    else
      (if ((v0 >>> ((v4 - v1) &&& 31)) &&& 1) = 1 then
        (if v3 = (-1) then
          K7 v2 v4 (v4 + 1)
        else
          (bnd (if v2 < (v4 - v3) then (v4 - v3) else v2) fun y2 =>
          K7 y2 v4 (v4 + 1)))
      else
        K7 v2 v3 (v4 + 1)))
  else
    some v2
def f_X7_gapOf_L7 (v0 : Int32) (v1 : Int32) : Nat → Int32 → Int32 → Int32 → Option Int32
  | 0 => fun _ _ _ => none
  | n + 1 => f_X7_gapOf_L7b v0 v1 (f_X7_gapOf_L7 v0 v1 n)
def f_X7_gapOf (p1 : Int32) (p2 : Int32) : Option Int32 :=
  f_X7_gapOf_L7 p1 p2 FU 0 (-1) 0
set_option maxHeartbeats 4000000 in
set_option maxRecDepth 100000 in
theorem l_X7_gapOf_L7 {E : EV} {l : Launch} {D : va_G} {cy : Nat → ClassId} {Ad : Nat → Nat} {out : St × Option Value} {o : Int32} (hA : AdOK 58 Ad) (xl : XL E l D (AdA 58 Ad)) (g : XG E (wX cy Ad) cy cX7_gapOf RX7 6 1 (some .int) out) (v0 : Int32) (v1 : Int32) (σ : St) (ho : out = (σ, (some (.int o)))) : ∀ (n : Nat) (v2 : Int32) (v3 : Int32) (v4 : Int32), f_X7_gapOf_L7 v0 v1 n v2 v3 v4 = some o → XJ E (wX cy Ad σ) 7 [(0, .int v0), (1, .int v1), (2, .int v2), (3, .int v3), (4, .int v4)] [] := by
  intro n
  induction n with
  | zero => intro _ _ _ hf; cases hf
  | succ n ih7 =>
    intro v2 v3 v4 hf
    replace hf : f_X7_gapOf_L7b v0 v1 (f_X7_gapOf_L7 v0 v1 n) v2 v3 v4 = some o := hf
    unfold f_X7_gapOf_L7b at hf
    refine x_iload g 4 dX7_gapOf_7 rfl ?_
    refine x_iconst g 2 dX7_gapOf_9 (by decide) ?_
    refine x_iload_n g 1 dX7_gapOf_10 rfl rfl ?_
    refine x_imul g dX7_gapOf_11 ?_
    refine x_icmp_ge g 69 dX7_gapOf_12 (by decide) hf (fun c12 hf => ?_) (fun c12 hf => ?_)
    · refine x_iload g 4 dX7_gapOf_15 rfl ?_
      refine x_iload_n g 1 dX7_gapOf_17 rfl rfl ?_
      refine x_icmp_ge g 26 dX7_gapOf_18 (by decide) hf (fun c18 hf => ?_) (fun c18 hf => ?_)
      · refine x_iload g 4 dX7_gapOf_21 rfl ?_
        refine x_goto g 30 dX7_gapOf_23 (by decide) ?_
        refine x_istore (lv' := [(5, .int v4), (0, .int v0), (1, .int v1), (2, .int v2), (3, .int v3), (4, .int v4)]) g dX7_gapOf_30 (by decide) rfl ?_
        refine x_iload_n g 1 dX7_gapOf_32 rfl rfl ?_
        refine x_iload g 0 dX7_gapOf_33 rfl ?_
        refine x_ishr g dX7_gapOf_35 ?_
        refine x_iconst g 1 dX7_gapOf_36 (by decide) ?_
        refine x_iand g dX7_gapOf_37 ?_
        refine x_iconst g 1 dX7_gapOf_38 (by decide) ?_
        refine x_icmp_ne g 63 dX7_gapOf_39 (by decide) hf (fun c39 hf => ?_) (fun c39 hf => ?_)
        · refine x_iload_n g 4 dX7_gapOf_42 rfl rfl ?_
          refine x_iconst g (-1) dX7_gapOf_43 (by decide) ?_
          refine x_icmp_ne g 51 dX7_gapOf_44 (by decide) hf (fun c44 hf => ?_) (fun c44 hf => ?_)
          · refine x_iload_n g 3 dX7_gapOf_47 rfl rfl ?_
            refine x_goto g 59 dX7_gapOf_48 (by decide) ?_
            refine x_istore_n (lv' := [(2, .int v2), (5, .int v4), (0, .int v0), (1, .int v1), (3, .int v3), (4, .int v4)]) g dX7_gapOf_59 rfl (by decide) rfl ?_
            refine x_iload g 5 dX7_gapOf_60 rfl ?_
            refine x_istore_n (lv' := [(3, .int v4), (2, .int v2), (5, .int v4), (0, .int v0), (1, .int v1), (4, .int v4)]) g dX7_gapOf_62 rfl (by decide) rfl ?_
            refine x_iinc g 5 (v4 + 1) (lv' := [(4, .int (v4 + 1)), (3, .int v4), (2, .int v2), (5, .int v4), (0, .int v0), (1, .int v1)]) dX7_gapOf_63 rfl (by rfl) (by decide) rfl ?_
            refine x_goto g 7 dX7_gapOf_66 (by decide) ?_
            exact x_sub [4, 5, 2, 1, 0] rfl (ih7 _ _ _ hf)
          · refine x_iload_n g 3 dX7_gapOf_51 rfl rfl ?_
            refine x_iload g 5 dX7_gapOf_52 rfl ?_
            refine x_iload_n g 4 dX7_gapOf_54 rfl rfl ?_
            refine x_isub g dX7_gapOf_55 ?_
            refine x_mmax g ml_X7_28 (by decide) (Nat.le_of_ble_eq_true rfl) dX7_gapOf_56 ?_
            refine x_nami hf (fun y1 hf => ?_)
            refine x_istore_n (lv' := [(2, .int y1), (5, .int v4), (0, .int v0), (1, .int v1), (3, .int v3), (4, .int v4)]) g dX7_gapOf_59 rfl (by decide) rfl ?_
            refine x_iload g 5 dX7_gapOf_60 rfl ?_
            refine x_istore_n (lv' := [(3, .int v4), (2, .int y1), (5, .int v4), (0, .int v0), (1, .int v1), (4, .int v4)]) g dX7_gapOf_62 rfl (by decide) rfl ?_
            refine x_iinc g 5 (v4 + 1) (lv' := [(4, .int (v4 + 1)), (3, .int v4), (2, .int y1), (5, .int v4), (0, .int v0), (1, .int v1)]) dX7_gapOf_63 rfl (by rfl) (by decide) rfl ?_
            refine x_goto g 7 dX7_gapOf_66 (by decide) ?_
            exact x_sub [4, 5, 2, 1, 0] rfl (ih7 _ _ _ hf)
        · refine x_iinc g 5 (v4 + 1) (lv' := [(4, .int (v4 + 1)), (5, .int v4), (0, .int v0), (1, .int v1), (2, .int v2), (3, .int v3)]) dX7_gapOf_63 rfl (by rfl) (by decide) rfl ?_
          refine x_goto g 7 dX7_gapOf_66 (by decide) ?_
          exact x_sub [2, 3, 4, 5, 0] rfl (ih7 _ _ _ hf)
      · refine x_iload g 4 dX7_gapOf_26 rfl ?_
        refine x_iload_n g 1 dX7_gapOf_28 rfl rfl ?_
        refine x_isub g dX7_gapOf_29 ?_
        refine x_istore (lv' := [(5, .int (v4 - v1)), (0, .int v0), (1, .int v1), (2, .int v2), (3, .int v3), (4, .int v4)]) g dX7_gapOf_30 (by decide) rfl ?_
        refine x_iload_n g 1 dX7_gapOf_32 rfl rfl ?_
        refine x_iload g 0 dX7_gapOf_33 rfl ?_
        refine x_ishr g dX7_gapOf_35 ?_
        refine x_iconst g 1 dX7_gapOf_36 (by decide) ?_
        refine x_iand g dX7_gapOf_37 ?_
        refine x_iconst g 1 dX7_gapOf_38 (by decide) ?_
        refine x_icmp_ne g 63 dX7_gapOf_39 (by decide) hf (fun c39 hf => ?_) (fun c39 hf => ?_)
        · refine x_iload_n g 4 dX7_gapOf_42 rfl rfl ?_
          refine x_iconst g (-1) dX7_gapOf_43 (by decide) ?_
          refine x_icmp_ne g 51 dX7_gapOf_44 (by decide) hf (fun c44 hf => ?_) (fun c44 hf => ?_)
          · refine x_iload_n g 3 dX7_gapOf_47 rfl rfl ?_
            refine x_goto g 59 dX7_gapOf_48 (by decide) ?_
            refine x_istore_n (lv' := [(2, .int v2), (5, .int (v4 - v1)), (0, .int v0), (1, .int v1), (3, .int v3), (4, .int v4)]) g dX7_gapOf_59 rfl (by decide) rfl ?_
            refine x_iload g 5 dX7_gapOf_60 rfl ?_
            refine x_istore_n (lv' := [(3, .int v4), (2, .int v2), (5, .int (v4 - v1)), (0, .int v0), (1, .int v1), (4, .int v4)]) g dX7_gapOf_62 rfl (by decide) rfl ?_
            refine x_iinc g 5 (v4 + 1) (lv' := [(4, .int (v4 + 1)), (3, .int v4), (2, .int v2), (5, .int (v4 - v1)), (0, .int v0), (1, .int v1)]) dX7_gapOf_63 rfl (by rfl) (by decide) rfl ?_
            refine x_goto g 7 dX7_gapOf_66 (by decide) ?_
            exact x_sub [4, 5, 2, 1, 0] rfl (ih7 _ _ _ hf)
          · refine x_iload_n g 3 dX7_gapOf_51 rfl rfl ?_
            refine x_iload g 5 dX7_gapOf_52 rfl ?_
            refine x_iload_n g 4 dX7_gapOf_54 rfl rfl ?_
            refine x_isub g dX7_gapOf_55 ?_
            refine x_mmax g ml_X7_28 (by decide) (Nat.le_of_ble_eq_true rfl) dX7_gapOf_56 ?_
            refine x_nami hf (fun y2 hf => ?_)
            refine x_istore_n (lv' := [(2, .int y2), (5, .int (v4 - v1)), (0, .int v0), (1, .int v1), (3, .int v3), (4, .int v4)]) g dX7_gapOf_59 rfl (by decide) rfl ?_
            refine x_iload g 5 dX7_gapOf_60 rfl ?_
            refine x_istore_n (lv' := [(3, .int v4), (2, .int y2), (5, .int (v4 - v1)), (0, .int v0), (1, .int v1), (4, .int v4)]) g dX7_gapOf_62 rfl (by decide) rfl ?_
            refine x_iinc g 5 (v4 + 1) (lv' := [(4, .int (v4 + 1)), (3, .int v4), (2, .int y2), (5, .int (v4 - v1)), (0, .int v0), (1, .int v1)]) dX7_gapOf_63 rfl (by rfl) (by decide) rfl ?_
            refine x_goto g 7 dX7_gapOf_66 (by decide) ?_
            exact x_sub [4, 5, 2, 1, 0] rfl (ih7 _ _ _ hf)
        · refine x_iinc g 5 (v4 + 1) (lv' := [(4, .int (v4 + 1)), (5, .int (v4 - v1)), (0, .int v0), (1, .int v1), (2, .int v2), (3, .int v3)]) dX7_gapOf_63 rfl (by rfl) (by decide) rfl ?_
          refine x_goto g 7 dX7_gapOf_66 (by decide) ?_
          exact x_sub [2, 3, 4, 5, 0] rfl (ih7 _ _ _ hf)
    · refine x_iload_n g 2 dX7_gapOf_69 rfl rfl ?_
      cases hf
      exact x_iret g rfl ho dX7_gapOf_70
set_option maxHeartbeats 4000000 in
set_option maxRecDepth 100000 in
theorem c_X7_gapOf {l : Launch} {D : va_G} {cy : Nat → ClassId} {Ad : Nat → Nat} (hA : AdOK 58 Ad) {σ : St} {p1 : Int32} {p2 : Int32} {o : Int32} (hf : f_X7_gapOf p1 p2 = some o) : CT l (wX cy Ad) D cy (AdA 58 Ad) yX7_gapOf cX7_gapOf 6 (some .int) 1 [.int p1, .int p2] σ (σ, (some (.int o))) := by
  refine CT.of mf_X7_gapOf (wX_D hA) (Nat.le_of_ble_eq_true rfl) ?_
  intro E xl g
  have ho : ((σ, (some (.int o))) : St × Option Value) = (σ, (some (.int o))) := rfl
  unfold f_X7_gapOf at hf
  show XJ E (wX cy Ad σ) 0 [(0, .int p1), (1, .int p2)] []
  refine x_iconst g 0 dX7_gapOf_0 (by decide) ?_
  refine x_istore_n (lv' := [(2, .int 0), (0, .int p1), (1, .int p2)]) g dX7_gapOf_1 rfl (by decide) rfl ?_
  refine x_iconst g (-1) dX7_gapOf_2 (by decide) ?_
  refine x_istore_n (lv' := [(3, .int (-1)), (2, .int 0), (0, .int p1), (1, .int p2)]) g dX7_gapOf_3 rfl (by decide) rfl ?_
  refine x_iconst g 0 dX7_gapOf_4 (by decide) ?_
  refine x_istore (lv' := [(4, .int 0), (3, .int (-1)), (2, .int 0), (0, .int p1), (1, .int p2)]) g dX7_gapOf_5 (by decide) rfl ?_
  exact x_sub [3, 4, 2, 1, 0] rfl (l_X7_gapOf_L7 hA xl g _ _ _ ho FU _ _ _ hf)
/-! SlotChip$Starts.comesAhead(II)Z -/
def f_X7_comesAhead (p1 : Int32) (p2 : Int32) : Option Int32 :=
  if ((p1 &&& (p1 ^^^ p2)) &&& (-(p1 ^^^ p2))) = 0 then
    some 0
  else
    some 1
set_option maxHeartbeats 4000000 in
set_option maxRecDepth 100000 in
theorem c_X7_comesAhead {l : Launch} {D : va_G} {cy : Nat → ClassId} {Ad : Nat → Nat} (hA : AdOK 58 Ad) {σ : St} {p1 : Int32} {p2 : Int32} {o : Int32} (hf : f_X7_comesAhead p1 p2 = some o) : CT l (wX cy Ad) D cy (AdA 58 Ad) yX7_comesAhead cX7_comesAhead 3 (some .boolean) 0 [.int p1, .int p2] σ (σ, (some (.int o))) := by
  refine CT.of mf_X7_comesAhead (wX_D hA) (Nat.le_of_ble_eq_true rfl) ?_
  intro E xl g
  have ho : ((σ, (some (.int o))) : St × Option Value) = (σ, (some (.int o))) := rfl
  unfold f_X7_comesAhead at hf
  show XJ E (wX cy Ad σ) 0 [(0, .int p1), (1, .int p2)] []
  refine x_iload_n g 0 dX7_comesAhead_0 rfl rfl ?_
  refine x_iload_n g 1 dX7_comesAhead_1 rfl rfl ?_
  refine x_ixor g dX7_comesAhead_2 ?_
  refine x_istore_n (lv' := [(2, .int (p1 ^^^ p2)), (0, .int p1), (1, .int p2)]) g dX7_comesAhead_3 rfl (by decide) rfl ?_
  refine x_iload_n g 1 dX7_comesAhead_4 rfl rfl ?_
  refine x_iload_n g 0 dX7_comesAhead_5 rfl rfl ?_
  refine x_iand g dX7_comesAhead_6 ?_
  refine x_iload_n g 0 dX7_comesAhead_7 rfl rfl ?_
  refine x_ineg g dX7_comesAhead_8 ?_
  refine x_iand g dX7_comesAhead_9 ?_
  refine x_if_eq g 17 dX7_comesAhead_10 (by decide) hf (fun c10 hf => ?_) (fun c10 hf => ?_)
  · refine x_iconst g 0 dX7_comesAhead_17 (by decide) ?_
    cases hf
    exact x_zret g rfl (by decide) ho dX7_comesAhead_18
  · refine x_iconst g 1 dX7_comesAhead_13 (by decide) ?_
    refine x_goto g 18 dX7_comesAhead_14 (by decide) ?_
    cases hf
    exact x_zret g rfl (by decide) ho dX7_comesAhead_18
/-! SlotChip$Starts.evenest(III)I -/
def f_X7_evenest_L10b (v0 : Int32) (v1 : Int32) (v2 : Int32) (K10 : Int32 → Int32 → Int32 → Option Int32) (v3 : Int32) (v4 : Int32) (v5 : Int32) : Option Int32 :=
  if v5 ≤ v0 then
    (if (v5 &&& v0) = v5 then
      ((f_J6_bitCount_0f7a4 v5).bind fun r1 =>
      if r1 = v1 then
        ((f_X7_gapOf v5 v2).bind fun r2 =>
        if v4 ≤ r2 then
          (if r2 = v4 then
            ((f_X7_comesAhead v5 v3).bind fun r3 =>
            if r3 = 0 then
              K10 v3 v4 (v5 + 1)
            else
              K10 v5 r2 (v5 + 1))
          else
            K10 v3 v4 (v5 + 1))
        else
          K10 v5 r2 (v5 + 1))
      else
        K10 v3 v4 (v5 + 1))
    else
      K10 v3 v4 (v5 + 1))
  else
    some v3
def f_X7_evenest_L10 (v0 : Int32) (v1 : Int32) (v2 : Int32) : Nat → Int32 → Int32 → Int32 → Option Int32
  | 0 => fun _ _ _ => none
  | n + 1 => f_X7_evenest_L10b v0 v1 v2 (f_X7_evenest_L10 v0 v1 v2 n)
def f_X7_evenest (p1 : Int32) (p2 : Int32) (p3 : Int32) : Option Int32 :=
  f_X7_evenest_L10 p1 p2 p3 FU 0 (p3 + 1) 1
set_option maxHeartbeats 4000000 in
set_option maxRecDepth 100000 in
theorem l_X7_evenest_L10 {E : EV} {l : Launch} {D : va_G} {cy : Nat → ClassId} {Ad : Nat → Nat} {out : St × Option Value} {o : Int32} (hA : AdOK 58 Ad) (xl : XL E l D (AdA 58 Ad)) (g : XG E (wX cy Ad) cy cX7_evenest RX7 7 2 (some .int) out) (v0 : Int32) (v1 : Int32) (v2 : Int32) (σ : St) (ho : out = (σ, (some (.int o)))) : ∀ (n : Nat) (v3 : Int32) (v4 : Int32) (v5 : Int32), f_X7_evenest_L10 v0 v1 v2 n v3 v4 v5 = some o → XJ E (wX cy Ad σ) 10 [(0, .int v0), (1, .int v1), (2, .int v2), (3, .int v3), (4, .int v4), (5, .int v5)] [] := by
  intro n
  induction n with
  | zero => intro _ _ _ hf; cases hf
  | succ n ih10 =>
    intro v3 v4 v5 hf
    replace hf : f_X7_evenest_L10b v0 v1 v2 (f_X7_evenest_L10 v0 v1 v2 n) v3 v4 v5 = some o := hf
    unfold f_X7_evenest_L10b at hf
    refine x_iload g 5 dX7_evenest_10 rfl ?_
    refine x_iload_n g 0 dX7_evenest_12 rfl rfl ?_
    refine x_icmp_gt g 78 dX7_evenest_13 (by decide) hf (fun c13 hf => ?_) (fun c13 hf => ?_)
    · refine x_iload g 5 dX7_evenest_16 rfl ?_
      refine x_iload_n g 0 dX7_evenest_18 rfl rfl ?_
      refine x_iand g dX7_evenest_19 ?_
      refine x_iload g 5 dX7_evenest_20 rfl ?_
      refine x_icmp_ne g 72 dX7_evenest_22 (by decide) hf (fun c22 hf => ?_) (fun c22 hf => ?_)
      · refine x_iload g 5 dX7_evenest_25 rfl ?_
        obtain ⟨r1, hgr1, hf⟩ := obind hf
        refine x_callS g xl [.int v5] [] [.int r1] (c_J6_bitCount_0f7a4 hA hgr1) mf_J6_bitCount_0f7a4 sm_J6_bitCount_0f7a4 ml_X7_9 (by decide) (by decide) rfl (Nat.le_of_ble_eq_true rfl) dX7_evenest_27 rfl rfl ?_
        refine x_iload_n g 1 dX7_evenest_30 rfl rfl ?_
        refine x_icmp_ne g 72 dX7_evenest_31 (by decide) hf (fun c31 hf => ?_) (fun c31 hf => ?_)
        · refine x_iload g 5 dX7_evenest_34 rfl ?_
          refine x_iload_n g 2 dX7_evenest_36 rfl rfl ?_
          obtain ⟨r2, hgr2, hf⟩ := obind hf
          refine x_callS g xl [.int v5, .int v2] [] [.int r2] (c_X7_gapOf hA hgr2) mf_X7_gapOf sm_X7_gapOf ml_X7_36 (by decide) (by decide) rfl (Nat.le_of_ble_eq_true rfl) dX7_evenest_37 rfl rfl ?_
          refine x_istore (lv' := [(6, .int r2), (0, .int v0), (1, .int v1), (2, .int v2), (3, .int v3), (4, .int v4), (5, .int v5)]) g dX7_evenest_40 (by decide) rfl ?_
          refine x_iload g 0 dX7_evenest_42 rfl ?_
          refine x_iload g 5 dX7_evenest_44 rfl ?_
          refine x_icmp_lt g 65 dX7_evenest_46 (by decide) hf (fun c46 hf => ?_) (fun c46 hf => ?_)
          · refine x_iload g 0 dX7_evenest_49 rfl ?_
            refine x_iload g 5 dX7_evenest_51 rfl ?_
            refine x_icmp_ne g 72 dX7_evenest_53 (by decide) hf (fun c53 hf => ?_) (fun c53 hf => ?_)
            · refine x_iload g 6 dX7_evenest_56 rfl ?_
              refine x_iload_n g 4 dX7_evenest_58 rfl rfl ?_
              obtain ⟨r3, hgr3, hf⟩ := obind hf
              refine x_callS g xl [.int v5, .int v3] [] [.int r3] (c_X7_comesAhead hA hgr3) mf_X7_comesAhead sm_X7_comesAhead ml_X7_39 (by decide) (by decide) rfl (Nat.le_of_ble_eq_true rfl) dX7_evenest_59 rfl rfl ?_
              refine x_if_eq g 72 dX7_evenest_62 (by decide) hf (fun c62 hf => ?_) (fun c62 hf => ?_)
              · refine x_iinc g 6 (v5 + 1) (lv' := [(5, .int (v5 + 1)), (6, .int r2), (0, .int v0), (1, .int v1), (2, .int v2), (3, .int v3), (4, .int v4)]) dX7_evenest_72 rfl (by rfl) (by decide) rfl ?_
                refine x_goto g 10 dX7_evenest_75 (by decide) ?_
                exact x_sub [2, 3, 4, 5, 6, 0] rfl (ih10 _ _ _ hf)
              · refine x_iload g 6 dX7_evenest_65 rfl ?_
                refine x_istore_n (lv' := [(3, .int v5), (6, .int r2), (0, .int v0), (1, .int v1), (2, .int v2), (4, .int v4), (5, .int v5)]) g dX7_evenest_67 rfl (by decide) rfl ?_
                refine x_iload g 1 dX7_evenest_68 rfl ?_
                refine x_istore (lv' := [(4, .int r2), (3, .int v5), (6, .int r2), (0, .int v0), (1, .int v1), (2, .int v2), (5, .int v5)]) g dX7_evenest_70 (by decide) rfl ?_
                refine x_iinc g 6 (v5 + 1) (lv' := [(5, .int (v5 + 1)), (4, .int r2), (3, .int v5), (6, .int r2), (0, .int v0), (1, .int v1), (2, .int v2)]) dX7_evenest_72 rfl (by rfl) (by decide) rfl ?_
                refine x_goto g 10 dX7_evenest_75 (by decide) ?_
                exact x_sub [4, 5, 6, 2, 1, 0] rfl (ih10 _ _ _ hf)
            · refine x_iinc g 6 (v5 + 1) (lv' := [(5, .int (v5 + 1)), (6, .int r2), (0, .int v0), (1, .int v1), (2, .int v2), (3, .int v3), (4, .int v4)]) dX7_evenest_72 rfl (by rfl) (by decide) rfl ?_
              refine x_goto g 10 dX7_evenest_75 (by decide) ?_
              exact x_sub [2, 3, 4, 5, 6, 0] rfl (ih10 _ _ _ hf)
          · refine x_iload g 6 dX7_evenest_65 rfl ?_
            refine x_istore_n (lv' := [(3, .int v5), (6, .int r2), (0, .int v0), (1, .int v1), (2, .int v2), (4, .int v4), (5, .int v5)]) g dX7_evenest_67 rfl (by decide) rfl ?_
            refine x_iload g 1 dX7_evenest_68 rfl ?_
            refine x_istore (lv' := [(4, .int r2), (3, .int v5), (6, .int r2), (0, .int v0), (1, .int v1), (2, .int v2), (5, .int v5)]) g dX7_evenest_70 (by decide) rfl ?_
            refine x_iinc g 6 (v5 + 1) (lv' := [(5, .int (v5 + 1)), (4, .int r2), (3, .int v5), (6, .int r2), (0, .int v0), (1, .int v1), (2, .int v2)]) dX7_evenest_72 rfl (by rfl) (by decide) rfl ?_
            refine x_goto g 10 dX7_evenest_75 (by decide) ?_
            exact x_sub [4, 5, 6, 2, 1, 0] rfl (ih10 _ _ _ hf)
        · refine x_iinc g 5 (v5 + 1) (lv' := [(5, .int (v5 + 1)), (0, .int v0), (1, .int v1), (2, .int v2), (3, .int v3), (4, .int v4)]) dX7_evenest_72 rfl (by rfl) (by decide) rfl ?_
          refine x_goto g 10 dX7_evenest_75 (by decide) ?_
          exact x_sub [1, 2, 3, 4, 5, 0] rfl (ih10 _ _ _ hf)
      · refine x_iinc g 5 (v5 + 1) (lv' := [(5, .int (v5 + 1)), (0, .int v0), (1, .int v1), (2, .int v2), (3, .int v3), (4, .int v4)]) dX7_evenest_72 rfl (by rfl) (by decide) rfl ?_
        refine x_goto g 10 dX7_evenest_75 (by decide) ?_
        exact x_sub [1, 2, 3, 4, 5, 0] rfl (ih10 _ _ _ hf)
    · refine x_iload_n g 3 dX7_evenest_78 rfl rfl ?_
      cases hf
      exact x_iret g rfl ho dX7_evenest_79
set_option maxHeartbeats 4000000 in
set_option maxRecDepth 100000 in
theorem c_X7_evenest {l : Launch} {D : va_G} {cy : Nat → ClassId} {Ad : Nat → Nat} (hA : AdOK 58 Ad) {σ : St} {p1 : Int32} {p2 : Int32} {p3 : Int32} {o : Int32} (hf : f_X7_evenest p1 p2 p3 = some o) : CT l (wX cy Ad) D cy (AdA 58 Ad) yX7_evenest cX7_evenest 7 (some .int) 2 [.int p1, .int p2, .int p3] σ (σ, (some (.int o))) := by
  refine CT.of mf_X7_evenest (wX_D hA) (Nat.le_of_ble_eq_true rfl) ?_
  intro E xl g
  have ho : ((σ, (some (.int o))) : St × Option Value) = (σ, (some (.int o))) := rfl
  unfold f_X7_evenest at hf
  show XJ E (wX cy Ad σ) 0 [(0, .int p1), (1, .int p2), (2, .int p3)] []
  refine x_iconst g 0 dX7_evenest_0 (by decide) ?_
  refine x_istore_n (lv' := [(3, .int 0), (0, .int p1), (1, .int p2), (2, .int p3)]) g dX7_evenest_1 rfl (by decide) rfl ?_
  refine x_iload_n g 3 dX7_evenest_2 rfl rfl ?_
  refine x_iconst g 1 dX7_evenest_3 (by decide) ?_
  refine x_iadd g dX7_evenest_4 ?_
  refine x_istore (lv' := [(4, .int (p3 + 1)), (3, .int 0), (0, .int p1), (1, .int p2), (2, .int p3)]) g dX7_evenest_5 (by decide) rfl ?_
  refine x_iconst g 1 dX7_evenest_7 (by decide) ?_
  refine x_istore (lv' := [(5, .int 1), (4, .int (p3 + 1)), (3, .int 0), (0, .int p1), (1, .int p2), (2, .int p3)]) g dX7_evenest_8 (by decide) rfl ?_
  exact x_sub [3, 4, 5, 2, 1, 0] rfl (l_X7_evenest_L10 hA xl g _ _ _ _ ho FU _ _ _ hf)
/-! SlotChip$Starts.burstFrom(III)I -/
def f_X7_burstFrom_L5b (v0 : Int32) (v1 : Int32) (v2 : Int32) (K5 : Int32 → Int32 → Option Int32) (v3 : Int32) (v4 : Int32) : Option Int32 :=
  if v4 < (v0 + v1) then
    (if v4 < v2 then
      (bnd (v3 ||| (1 <<< (v4 &&& 31))) fun y1 =>
      K5 y1 (v4 + 1))
    else
      (bnd (v3 ||| (1 <<< ((v4 - v2) &&& 31))) fun y2 =>
      K5 y2 (v4 + 1)))
  else
    some v3
def f_X7_burstFrom_L5 (v0 : Int32) (v1 : Int32) (v2 : Int32) : Nat → Int32 → Int32 → Option Int32
  | 0 => fun _ _ => none
  | n + 1 => f_X7_burstFrom_L5b v0 v1 v2 (f_X7_burstFrom_L5 v0 v1 v2 n)
def f_X7_burstFrom (p1 : Int32) (p2 : Int32) (p3 : Int32) : Option Int32 :=
  f_X7_burstFrom_L5 p1 p2 p3 FU 0 p1
set_option maxHeartbeats 4000000 in
set_option maxRecDepth 100000 in
theorem l_X7_burstFrom_L5 {E : EV} {l : Launch} {D : va_G} {cy : Nat → ClassId} {Ad : Nat → Nat} {out : St × Option Value} {o : Int32} (hA : AdOK 58 Ad) (xl : XL E l D (AdA 58 Ad)) (g : XG E (wX cy Ad) cy cX7_burstFrom RX7 5 0 (some .int) out) (v0 : Int32) (v1 : Int32) (v2 : Int32) (σ : St) (ho : out = (σ, (some (.int o)))) : ∀ (n : Nat) (v3 : Int32) (v4 : Int32), f_X7_burstFrom_L5 v0 v1 v2 n v3 v4 = some o → XJ E (wX cy Ad σ) 5 [(0, .int v0), (1, .int v1), (2, .int v2), (3, .int v3), (4, .int v4)] [] := by
  intro n
  induction n with
  | zero => intro _ _ hf; cases hf
  | succ n ih5 =>
    intro v3 v4 hf
    replace hf : f_X7_burstFrom_L5b v0 v1 v2 (f_X7_burstFrom_L5 v0 v1 v2 n) v3 v4 = some o := hf
    unfold f_X7_burstFrom_L5b at hf
    refine x_iload g 4 dX7_burstFrom_5 rfl ?_
    refine x_iload_n g 0 dX7_burstFrom_7 rfl rfl ?_
    refine x_iload_n g 1 dX7_burstFrom_8 rfl rfl ?_
    refine x_iadd g dX7_burstFrom_9 ?_
    refine x_icmp_ge g 39 dX7_burstFrom_10 (by decide) hf (fun c10 hf => ?_) (fun c10 hf => ?_)
    · refine x_iload_n g 3 dX7_burstFrom_13 rfl rfl ?_
      refine x_iconst g 1 dX7_burstFrom_14 (by decide) ?_
      refine x_iload g 4 dX7_burstFrom_15 rfl ?_
      refine x_iload_n g 2 dX7_burstFrom_17 rfl rfl ?_
      refine x_icmp_ge g 26 dX7_burstFrom_18 (by decide) hf (fun c18 hf => ?_) (fun c18 hf => ?_)
      · refine x_iload g 4 dX7_burstFrom_21 rfl ?_
        refine x_goto g 30 dX7_burstFrom_23 (by decide) ?_
        refine x_ishl g dX7_burstFrom_30 ?_
        refine x_ior g dX7_burstFrom_31 ?_
        refine x_nami hf (fun y1 hf => ?_)
        refine x_istore_n (lv' := [(3, .int y1), (0, .int v0), (1, .int v1), (2, .int v2), (4, .int v4)]) g dX7_burstFrom_32 rfl (by decide) rfl ?_
        refine x_iinc g 4 (v4 + 1) (lv' := [(4, .int (v4 + 1)), (3, .int y1), (0, .int v0), (1, .int v1), (2, .int v2)]) dX7_burstFrom_33 rfl (by rfl) (by decide) rfl ?_
        refine x_goto g 5 dX7_burstFrom_36 (by decide) ?_
        exact x_sub [2, 3, 4, 1, 0] rfl (ih5 _ _ hf)
      · refine x_iload g 4 dX7_burstFrom_26 rfl ?_
        refine x_iload_n g 2 dX7_burstFrom_28 rfl rfl ?_
        refine x_isub g dX7_burstFrom_29 ?_
        refine x_ishl g dX7_burstFrom_30 ?_
        refine x_ior g dX7_burstFrom_31 ?_
        refine x_nami hf (fun y2 hf => ?_)
        refine x_istore_n (lv' := [(3, .int y2), (0, .int v0), (1, .int v1), (2, .int v2), (4, .int v4)]) g dX7_burstFrom_32 rfl (by decide) rfl ?_
        refine x_iinc g 4 (v4 + 1) (lv' := [(4, .int (v4 + 1)), (3, .int y2), (0, .int v0), (1, .int v1), (2, .int v2)]) dX7_burstFrom_33 rfl (by rfl) (by decide) rfl ?_
        refine x_goto g 5 dX7_burstFrom_36 (by decide) ?_
        exact x_sub [2, 3, 4, 1, 0] rfl (ih5 _ _ hf)
    · refine x_iload_n g 3 dX7_burstFrom_39 rfl rfl ?_
      cases hf
      exact x_iret g rfl ho dX7_burstFrom_40
set_option maxHeartbeats 4000000 in
set_option maxRecDepth 100000 in
theorem c_X7_burstFrom {l : Launch} {D : va_G} {cy : Nat → ClassId} {Ad : Nat → Nat} (hA : AdOK 58 Ad) {σ : St} {p1 : Int32} {p2 : Int32} {p3 : Int32} {o : Int32} (hf : f_X7_burstFrom p1 p2 p3 = some o) : CT l (wX cy Ad) D cy (AdA 58 Ad) yX7_burstFrom cX7_burstFrom 5 (some .int) 0 [.int p1, .int p2, .int p3] σ (σ, (some (.int o))) := by
  refine CT.of mf_X7_burstFrom (wX_D hA) (Nat.le_of_ble_eq_true rfl) ?_
  intro E xl g
  have ho : ((σ, (some (.int o))) : St × Option Value) = (σ, (some (.int o))) := rfl
  unfold f_X7_burstFrom at hf
  show XJ E (wX cy Ad σ) 0 [(0, .int p1), (1, .int p2), (2, .int p3)] []
  refine x_iconst g 0 dX7_burstFrom_0 (by decide) ?_
  refine x_istore_n (lv' := [(3, .int 0), (0, .int p1), (1, .int p2), (2, .int p3)]) g dX7_burstFrom_1 rfl (by decide) rfl ?_
  refine x_iload_n g 1 dX7_burstFrom_2 rfl rfl ?_
  refine x_istore (lv' := [(4, .int p1), (3, .int 0), (0, .int p1), (1, .int p2), (2, .int p3)]) g dX7_burstFrom_3 (by decide) rfl ?_
  exact x_sub [2, 3, 4, 1, 0] rfl (l_X7_burstFrom_L5 hA xl g _ _ _ _ ho FU _ _ hf)
/-! SlotChip$Starts.firstRun(III)I -/
def f_X7_firstRun_L2b (v0 : Int32) (v1 : Int32) (v2 : Int32) (K2 : Int32 → Option Int32) (v3 : Int32) : Option Int32 :=
  if v3 < v2 then
    ((f_X7_burstFrom v3 v1 v2).bind fun r1 =>
    if (r1 &&& v0) = r1 then
      some r1
    else
      K2 (v3 + 1))
  else
    some 0
def f_X7_firstRun_L2 (v0 : Int32) (v1 : Int32) (v2 : Int32) : Nat → Int32 → Option Int32
  | 0 => fun _ => none
  | n + 1 => f_X7_firstRun_L2b v0 v1 v2 (f_X7_firstRun_L2 v0 v1 v2 n)
def f_X7_firstRun (p1 : Int32) (p2 : Int32) (p3 : Int32) : Option Int32 :=
  f_X7_firstRun_L2 p1 p2 p3 FU 0
set_option maxHeartbeats 4000000 in
set_option maxRecDepth 100000 in
theorem l_X7_firstRun_L2 {E : EV} {l : Launch} {D : va_G} {cy : Nat → ClassId} {Ad : Nat → Nat} {out : St × Option Value} {o : Int32} (hA : AdOK 58 Ad) (xl : XL E l D (AdA 58 Ad)) (g : XG E (wX cy Ad) cy cX7_firstRun RX7 5 1 (some .int) out) (v0 : Int32) (v1 : Int32) (v2 : Int32) (σ : St) (ho : out = (σ, (some (.int o)))) : ∀ (n : Nat) (v3 : Int32), f_X7_firstRun_L2 v0 v1 v2 n v3 = some o → XJ E (wX cy Ad σ) 2 [(0, .int v0), (1, .int v1), (2, .int v2), (3, .int v3)] [] := by
  intro n
  induction n with
  | zero => intro _ hf; cases hf
  | succ n ih2 =>
    intro v3 hf
    replace hf : f_X7_firstRun_L2b v0 v1 v2 (f_X7_firstRun_L2 v0 v1 v2 n) v3 = some o := hf
    unfold f_X7_firstRun_L2b at hf
    refine x_iload_n g 3 dX7_firstRun_2 rfl rfl ?_
    refine x_iload_n g 2 dX7_firstRun_3 rfl rfl ?_
    refine x_icmp_ge g 33 dX7_firstRun_4 (by decide) hf (fun c4 hf => ?_) (fun c4 hf => ?_)
    · refine x_iload_n g 3 dX7_firstRun_7 rfl rfl ?_
      refine x_iload_n g 1 dX7_firstRun_8 rfl rfl ?_
      refine x_iload_n g 2 dX7_firstRun_9 rfl rfl ?_
      obtain ⟨r1, hgr1, hf⟩ := obind hf
      refine x_callS g xl [.int v3, .int v1, .int v2] [] [.int r1] (c_X7_burstFrom hA hgr1) mf_X7_burstFrom sm_X7_burstFrom ml_X7_33 (by decide) (by decide) rfl (Nat.le_of_ble_eq_true rfl) dX7_firstRun_10 rfl rfl ?_
      refine x_istore (lv' := [(4, .int r1), (0, .int v0), (1, .int v1), (2, .int v2), (3, .int v3)]) g dX7_firstRun_13 (by decide) rfl ?_
      refine x_iload g 0 dX7_firstRun_15 rfl ?_
      refine x_iload_n g 1 dX7_firstRun_17 rfl rfl ?_
      refine x_iand g dX7_firstRun_18 ?_
      refine x_iload g 0 dX7_firstRun_19 rfl ?_
      refine x_icmp_ne g 27 dX7_firstRun_21 (by decide) hf (fun c21 hf => ?_) (fun c21 hf => ?_)
      · refine x_iload g 0 dX7_firstRun_24 rfl ?_
        cases hf
        exact x_iret g rfl ho dX7_firstRun_26
      · refine x_iinc g 4 (v3 + 1) (lv' := [(3, .int (v3 + 1)), (4, .int r1), (0, .int v0), (1, .int v1), (2, .int v2)]) dX7_firstRun_27 rfl (by rfl) (by decide) rfl ?_
        refine x_goto g 2 dX7_firstRun_30 (by decide) ?_
        exact x_sub [2, 3, 4, 0] rfl (ih2 _ hf)
    · refine x_iconst g 0 dX7_firstRun_33 (by decide) ?_
      cases hf
      exact x_iret g rfl ho dX7_firstRun_34
set_option maxHeartbeats 4000000 in
set_option maxRecDepth 100000 in
theorem c_X7_firstRun {l : Launch} {D : va_G} {cy : Nat → ClassId} {Ad : Nat → Nat} (hA : AdOK 58 Ad) {σ : St} {p1 : Int32} {p2 : Int32} {p3 : Int32} {o : Int32} (hf : f_X7_firstRun p1 p2 p3 = some o) : CT l (wX cy Ad) D cy (AdA 58 Ad) yX7_firstRun cX7_firstRun 5 (some .int) 1 [.int p1, .int p2, .int p3] σ (σ, (some (.int o))) := by
  refine CT.of mf_X7_firstRun (wX_D hA) (Nat.le_of_ble_eq_true rfl) ?_
  intro E xl g
  have ho : ((σ, (some (.int o))) : St × Option Value) = (σ, (some (.int o))) := rfl
  unfold f_X7_firstRun at hf
  show XJ E (wX cy Ad σ) 0 [(0, .int p1), (1, .int p2), (2, .int p3)] []
  refine x_iconst g 0 dX7_firstRun_0 (by decide) ?_
  refine x_istore_n (lv' := [(3, .int 0), (0, .int p1), (1, .int p2), (2, .int p3)]) g dX7_firstRun_1 rfl (by decide) rfl ?_
  exact x_sub [1, 2, 3, 0] rfl (l_X7_firstRun_L2 hA xl g _ _ _ _ ho FU _ hf)
/-! SlotChip$Starts.least(II)I -/
def f_X7_least_L4b (v0 : Int32) (v1 : Int32) (K4 : Int32 → Int32 → Option Int32) (v2 : Int32) (v3 : Int32) : Option Int32 :=
  if v3 < v1 then
    K4 (v2 &&& (v2 - 1)) (v3 + 1)
  else
    some (v0 &&& (v2 ^^^ (-1)))
def f_X7_least_L4 (v0 : Int32) (v1 : Int32) : Nat → Int32 → Int32 → Option Int32
  | 0 => fun _ _ => none
  | n + 1 => f_X7_least_L4b v0 v1 (f_X7_least_L4 v0 v1 n)
def f_X7_least (p1 : Int32) (p2 : Int32) : Option Int32 :=
  f_X7_least_L4 p1 p2 FU p1 0
set_option maxHeartbeats 4000000 in
set_option maxRecDepth 100000 in
theorem l_X7_least_L4 {E : EV} {l : Launch} {D : va_G} {cy : Nat → ClassId} {Ad : Nat → Nat} {out : St × Option Value} {o : Int32} (hA : AdOK 58 Ad) (xl : XL E l D (AdA 58 Ad)) (g : XG E (wX cy Ad) cy cX7_least RX7 4 0 (some .int) out) (v0 : Int32) (v1 : Int32) (σ : St) (ho : out = (σ, (some (.int o)))) : ∀ (n : Nat) (v2 : Int32) (v3 : Int32), f_X7_least_L4 v0 v1 n v2 v3 = some o → XJ E (wX cy Ad σ) 4 [(0, .int v0), (1, .int v1), (2, .int v2), (3, .int v3)] [] := by
  intro n
  induction n with
  | zero => intro _ _ hf; cases hf
  | succ n ih4 =>
    intro v2 v3 hf
    replace hf : f_X7_least_L4b v0 v1 (f_X7_least_L4 v0 v1 n) v2 v3 = some o := hf
    unfold f_X7_least_L4b at hf
    refine x_iload_n g 3 dX7_least_4 rfl rfl ?_
    refine x_iload_n g 1 dX7_least_5 rfl rfl ?_
    refine x_icmp_ge g 21 dX7_least_6 (by decide) hf (fun c6 hf => ?_) (fun c6 hf => ?_)
    · refine x_iload_n g 2 dX7_least_9 rfl rfl ?_
      refine x_iload_n g 2 dX7_least_10 rfl rfl ?_
      refine x_iconst g 1 dX7_least_11 (by decide) ?_
      refine x_isub g dX7_least_12 ?_
      refine x_iand g dX7_least_13 ?_
      refine x_istore_n (lv' := [(2, .int (v2 &&& (v2 - 1))), (0, .int v0), (1, .int v1), (3, .int v3)]) g dX7_least_14 rfl (by decide) rfl ?_
      refine x_iinc g 3 (v3 + 1) (lv' := [(3, .int (v3 + 1)), (2, .int (v2 &&& (v2 - 1))), (0, .int v0), (1, .int v1)]) dX7_least_15 rfl (by rfl) (by decide) rfl ?_
      refine x_goto g 4 dX7_least_18 (by decide) ?_
      exact x_sub [2, 3, 1, 0] rfl (ih4 _ _ hf)
    · refine x_iload_n g 0 dX7_least_21 rfl rfl ?_
      refine x_iload_n g 2 dX7_least_22 rfl rfl ?_
      refine x_iconst g (-1) dX7_least_23 (by decide) ?_
      refine x_ixor g dX7_least_24 ?_
      refine x_iand g dX7_least_25 ?_
      cases hf
      exact x_iret g rfl ho dX7_least_26
set_option maxHeartbeats 4000000 in
set_option maxRecDepth 100000 in
theorem c_X7_least {l : Launch} {D : va_G} {cy : Nat → ClassId} {Ad : Nat → Nat} (hA : AdOK 58 Ad) {σ : St} {p1 : Int32} {p2 : Int32} {o : Int32} (hf : f_X7_least p1 p2 = some o) : CT l (wX cy Ad) D cy (AdA 58 Ad) yX7_least cX7_least 4 (some .int) 0 [.int p1, .int p2] σ (σ, (some (.int o))) := by
  refine CT.of mf_X7_least (wX_D hA) (Nat.le_of_ble_eq_true rfl) ?_
  intro E xl g
  have ho : ((σ, (some (.int o))) : St × Option Value) = (σ, (some (.int o))) := rfl
  unfold f_X7_least at hf
  show XJ E (wX cy Ad σ) 0 [(0, .int p1), (1, .int p2)] []
  refine x_iload_n g 0 dX7_least_0 rfl rfl ?_
  refine x_istore_n (lv' := [(2, .int p1), (0, .int p1), (1, .int p2)]) g dX7_least_1 rfl (by decide) rfl ?_
  refine x_iconst g 0 dX7_least_2 (by decide) ?_
  refine x_istore_n (lv' := [(3, .int 0), (2, .int p1), (0, .int p1), (1, .int p2)]) g dX7_least_3 rfl (by decide) rfl ?_
  exact x_sub [2, 3, 1, 0] rfl (l_X7_least_L4 hA xl g _ _ _ ho FU _ _ hf)
/-! SlotChip$Starts.choose(IIII)I -/
def f_X7_choose (p1 : Int32) (p2 : Int32) (p3 : Int32) (p4 : Int32) : Option Int32 :=
  if 1 ≤ p3 then
    ((f_J6_bitCount_0f7a4 p2).bind fun r1 =>
    if r1 < p3 then
      some 0
    else
      (if p1 = 1 then
        ((f_X7_evenest p2 p3 p4).bind fun r2 =>
        some r2)
      else
        (if p1 = 2 then
          ((f_X7_evenest p2 p3 p4).bind fun r3 =>
          some r3)
        else
          (if p1 = 3 then
            ((f_X7_firstRun p2 p3 p4).bind fun r4 =>
            some r4)
          else
            ((f_X7_least p2 p3).bind fun r5 =>
            some r5)))))
  else
    some 0
set_option maxHeartbeats 4000000 in
set_option maxRecDepth 100000 in
theorem c_X7_choose {l : Launch} {D : va_G} {cy : Nat → ClassId} {Ad : Nat → Nat} (hA : AdOK 58 Ad) {σ : St} {p1 : Int32} {p2 : Int32} {p3 : Int32} {p4 : Int32} {o : Int32} (hf : f_X7_choose p1 p2 p3 p4 = some o) : CT l (wX cy Ad) D cy (AdA 58 Ad) yX7_choose cX7_choose 4 (some .int) 3 [.int p1, .int p2, .int p3, .int p4] σ (σ, (some (.int o))) := by
  refine CT.of mf_X7_choose (wX_D hA) (Nat.le_of_ble_eq_true rfl) ?_
  intro E xl g
  have ho : ((σ, (some (.int o))) : St × Option Value) = (σ, (some (.int o))) := rfl
  unfold f_X7_choose at hf
  show XJ E (wX cy Ad σ) 0 [(0, .int p1), (1, .int p2), (2, .int p3), (3, .int p4)] []
  refine x_iload_n g 2 dX7_choose_0 rfl rfl ?_
  refine x_iconst g 1 dX7_choose_1 (by decide) ?_
  refine x_icmp_lt g 13 dX7_choose_2 (by decide) hf (fun c2 hf => ?_) (fun c2 hf => ?_)
  · refine x_iload_n g 1 dX7_choose_5 rfl rfl ?_
    obtain ⟨r1, hgr1, hf⟩ := obind hf
    refine x_callS g xl [.int p2] [] [.int r1] (c_J6_bitCount_0f7a4 hA hgr1) mf_J6_bitCount_0f7a4 sm_J6_bitCount_0f7a4 ml_X7_9 (by decide) (by decide) rfl (Nat.le_of_ble_eq_true rfl) dX7_choose_6 rfl rfl ?_
    refine x_iload_n g 2 dX7_choose_9 rfl rfl ?_
    refine x_icmp_ge g 15 dX7_choose_10 (by decide) hf (fun c10 hf => ?_) (fun c10 hf => ?_)
    · refine x_iconst g 0 dX7_choose_13 (by decide) ?_
      cases hf
      exact x_iret g rfl ho dX7_choose_14
    · refine x_iload_n g 0 dX7_choose_15 rfl rfl ?_
      refine sp hf (fun n_16_1 hf => ?_) (fun n_16_1 hf => ?_)
      · refine x_tin g 1 28 44 dX7_choose_16 n_16_1 (by decide) ?_
        refine x_iload_n g 1 dX7_choose_44 rfl rfl ?_
        refine x_iload_n g 2 dX7_choose_45 rfl rfl ?_
        refine x_iload_n g 3 dX7_choose_46 rfl rfl ?_
        obtain ⟨r2, hgr2, hf⟩ := obind hf
        refine x_callS g xl [.int p2, .int p3, .int p4] [] [.int r2] (c_X7_evenest hA hgr2) mf_X7_evenest sm_X7_evenest ml_X7_15 (by decide) (by decide) rfl (Nat.le_of_ble_eq_true rfl) dX7_choose_47 rfl rfl ?_
        cases hf
        exact x_iret g rfl ho dX7_choose_50
      · refine sp hf (fun n_16_2 hf => ?_) (fun n_16_2 hf => ?_)
        · refine x_tin g 2 28 44 dX7_choose_16 n_16_2 (by decide) ?_
          refine x_iload_n g 1 dX7_choose_44 rfl rfl ?_
          refine x_iload_n g 2 dX7_choose_45 rfl rfl ?_
          refine x_iload_n g 3 dX7_choose_46 rfl rfl ?_
          obtain ⟨r3, hgr3, hf⟩ := obind hf
          refine x_callS g xl [.int p2, .int p3, .int p4] [] [.int r3] (c_X7_evenest hA hgr3) mf_X7_evenest sm_X7_evenest ml_X7_15 (by decide) (by decide) rfl (Nat.le_of_ble_eq_true rfl) dX7_choose_47 rfl rfl ?_
          cases hf
          exact x_iret g rfl ho dX7_choose_50
        · refine sp hf (fun n_16_3 hf => ?_) (fun n_16_3 hf => ?_)
          · refine x_tin g 3 35 51 dX7_choose_16 n_16_3 (by decide) ?_
            refine x_iload_n g 1 dX7_choose_51 rfl rfl ?_
            refine x_iload_n g 2 dX7_choose_52 rfl rfl ?_
            refine x_iload_n g 3 dX7_choose_53 rfl rfl ?_
            obtain ⟨r4, hgr4, hf⟩ := obind hf
            refine x_callS g xl [.int p2, .int p3, .int p4] [] [.int r4] (c_X7_firstRun hA hgr4) mf_X7_firstRun sm_X7_firstRun ml_X7_21 (by decide) (by decide) rfl (Nat.le_of_ble_eq_true rfl) dX7_choose_54 rfl rfl ?_
            cases hf
            exact x_iret g rfl ho dX7_choose_57
          · refine x_tout g 58 dX7_choose_16 (by have e1 := tI n_16_1 (by decide : (1 : Int32).toInt = 1); have e2 := tI n_16_2 (by decide : (2 : Int32).toInt = 2); have e3 := tI n_16_3 (by decide : (3 : Int32).toInt = 3); omega) (by decide) ?_
            refine x_iload_n g 1 dX7_choose_58 rfl rfl ?_
            refine x_iload_n g 2 dX7_choose_59 rfl rfl ?_
            obtain ⟨r5, hgr5, hf⟩ := obind hf
            refine x_callS g xl [.int p2, .int p3] [] [.int r5] (c_X7_least hA hgr5) mf_X7_least sm_X7_least ml_X7_24 (by decide) (by decide) rfl (Nat.le_of_ble_eq_true rfl) dX7_choose_60 rfl rfl ?_
            cases hf
            exact x_iret g rfl ho dX7_choose_63
  · refine x_iconst g 0 dX7_choose_13 (by decide) ?_
    cases hf
    exact x_iret g rfl ho dX7_choose_14
/-! SlotChip$Search.end(III)V -/
def f_X6_end (σ : St) (p1 : Int32) (p2 : Int32) (p3 : Int32) : Option St :=
  if p1 = (σ.1 6 0 4) then
    (if p2 = (σ.1 6 0 6) then
      (bnd (si σ 6 0 8 1) fun σ1 =>
      (f_X11_linkOf p1 1).bind fun r2 =>
      (f_X1_freeStarts σ1 r2 (p2 + 1)).bind fun r3 =>
      (f_X7_choose (σ1.1 6 0 3) (p3 &&& r3) (σ1.1 6 0 5) (σ1.1 1 0 1)).bind fun r4 =>
      bnd (si σ1 6 0 7 r4) fun σ5 =>
      some σ5)
    else
      some σ)
  else
    some σ
set_option maxHeartbeats 4000000 in
set_option maxRecDepth 100000 in
theorem c_X6_end {l : Launch} {D : va_G} {cy : Nat → ClassId} {Ad : Nat → Nat} (hA : AdOK 58 Ad) {σ : St} {p1 : Int32} {p2 : Int32} {p3 : Int32} {o : St} (hf : f_X6_end σ p1 p2 p3 = some o) : CT l (wX cy Ad) D cy (AdA 58 Ad) yX6_end cX6_end 5 none 4 [.ref (Ad 38), .int p1, .int p2, .int p3] σ (o, none) := by
  refine CT.of mf_X6_end (wX_D hA) (Nat.le_of_ble_eq_true rfl) ?_
  intro E xl g
  have ho : ((o, none) : St × Option Value) = (o, none) := rfl
  unfold f_X6_end at hf
  show XJ E (wX cy Ad σ) 0 [(0, .ref (Ad 38)), (1, .int p1), (2, .int p2), (3, .int p3)] []
  refine x_iload_n g 1 dX6_end_0 rfl rfl ?_
  refine x_aload_n g 0 dX6_end_1 rfl rfl ?_
  refine x_get g fl_X6_27 wx_38 rfl dX6_end_2 ?_
  refine x_icmp_ne g 64 dX6_end_5 (by decide) hf (fun c5 hf => ?_) (fun c5 hf => ?_)
  · refine x_iload_n g 2 dX6_end_8 rfl rfl ?_
    refine x_aload_n g 0 dX6_end_9 rfl rfl ?_
    refine x_get g fl_X6_40 wx_38 rfl dX6_end_10 ?_
    refine x_icmp_ne g 64 dX6_end_13 (by decide) hf (fun c13 hf => ?_) (fun c13 hf => ?_)
    · refine x_aload_n g 0 dX6_end_16 rfl rfl ?_
      refine x_iconst g 1 dX6_end_17 (by decide) ?_
      refine x_putB g tyX6 fl_X6_36 tyX6_ok nmX6 wx_38 rfl rfl rfl (Nat.le_of_ble_eq_true rfl) (sx_38_8 _) dX6_end_18 hf (fun σ1 hf => ?_)
      refine x_aload_n g 0 dX6_end_21 rfl rfl ?_
      refine x_get g fl_X6_19 wx_38 rfl dX6_end_22 ?_
      refine x_iload_n g 1 dX6_end_25 rfl rfl ?_
      refine x_iconst g 1 dX6_end_26 (by decide) ?_
      obtain ⟨r2, hgr2, hf⟩ := obind hf
      refine x_callN g xl [.int p1, .int 1] [.ref (Ad 6)] [.int r2, .ref (Ad 6)] (c_X11_linkOf hA hgr2) mf_X11_linkOf sm_X11_linkOf nl_X6_43 (by decide) (by decide) rfl (Nat.le_of_ble_eq_true rfl) dX6_end_27 rfl rfl ?_
      refine x_iload_n g 2 dX6_end_30 rfl rfl ?_
      refine x_iconst g 1 dX6_end_31 (by decide) ?_
      refine x_iadd g dX6_end_32 ?_
      obtain ⟨r3, hgr3, hf⟩ := obind hf
      refine x_callV (r := (RX1, TX1, 6)) g xl [.int r2, .int (p2 + 1)] [] [.int r3] (c_X1_freeStarts hA hgr3) mf_X1_freeStarts im_X1_freeStarts se_X1_freeStarts ml_X6_47 rfl wx_6 (by decide) (by decide) rfl (Nat.le_of_ble_eq_true rfl) dX6_end_33 rfl rfl ?_
      refine x_istore (lv' := [(4, .int r3), (0, .ref (Ad 38)), (1, .int p1), (2, .int p2), (3, .int p3)]) g dX6_end_36 (by decide) rfl ?_
      refine x_aload_n g 1 dX6_end_38 rfl rfl ?_
      refine x_aload_n g 1 dX6_end_39 rfl rfl ?_
      refine x_get g fl_X6_23 wx_38 rfl dX6_end_40 ?_
      refine x_iload_n g 4 dX6_end_43 rfl rfl ?_
      refine x_iload g 0 dX6_end_44 rfl ?_
      refine x_iand g dX6_end_46 ?_
      refine x_aload_n g 1 dX6_end_47 rfl rfl ?_
      refine x_get g fl_X6_30 wx_38 rfl dX6_end_48 ?_
      refine x_aload_n g 1 dX6_end_51 rfl rfl ?_
      refine x_get g fl_X6_19 wx_38 rfl dX6_end_52 ?_
      refine x_get g fl_X6_89 wx_6 rfl dX6_end_55 ?_
      obtain ⟨r4, hgr4, hf⟩ := obind hf
      refine x_callS g xl [.int (σ1.1 6 0 3), .int (p3 &&& r3), .int (σ1.1 6 0 5), .int (σ1.1 1 0 1)] [.ref (Ad 38)] [.int r4, .ref (Ad 38)] (c_X7_choose hA hgr4) mf_X7_choose sm_X7_choose ml_X6_92 (by decide) (by decide) rfl (Nat.le_of_ble_eq_true rfl) dX6_end_58 rfl rfl ?_
      refine x_putB g tyX6 fl_X6_33 tyX6_ok nmX6 wx_38 rfl rfl rfl (Nat.le_of_ble_eq_true rfl) (sx_38_7 _) dX6_end_61 hf (fun σ5 hf => ?_)
      cases hf
      exact x_vret g rfl ho dX6_end_64
    · cases hf
      exact x_vret g rfl ho dX6_end_64
  · cases hf
    exact x_vret g rfl ho dX6_end_64
/-! SlotChip$Search.hop(III)V -/
def f_X6_hop (Wk : St → Int32 → Int32 → Int32 → Option St) (σ : St) (p1 : Int32) (p2 : Int32) (p3 : Int32) : Option St :=
  (f_X1_isBroken σ p1).bind fun r1 =>
  if r1 = 0 then
    ((f_X4_endOf σ 1 p1).bind fun r2 =>
    if 0 ≤ r2 then
      (if r2 < 9 then
        (chk (inb r2 9) (
          if (σ.1 20 0 (Int32.toNatClampNeg r2)) = 0 then
            (if 0 ≤ p2 then
              (if 6 ≤ p2 then
                some σ
              else
                (chk (inb p2 6) (
                  bnd (si σ 19 0 (Int32.toNatClampNeg p2) p1) fun σ3 =>
                  chk (inb r2 9) (
                    bnd (si σ3 20 0 (Int32.toNatClampNeg r2) 1) fun σ4 =>
                    (f_X1_freeStarts σ4 p1 (p2 + 1)).bind fun r5 =>
                    (Wk σ4 r2 (p2 + 1) (p3 &&& r5)).bind fun σ7 =>
                    chk (inb r2 9) (
                      bnd (si σ7 20 0 (Int32.toNatClampNeg r2) 0) fun σ8 =>
                      some σ8)))))
            else
              some σ)
          else
            some σ))
      else
        some σ)
    else
      some σ)
  else
    some σ
set_option maxHeartbeats 4000000 in
set_option maxRecDepth 100000 in
theorem c_X6_hop {l : Launch} {D : va_G} {cy : Nat → ClassId} {Ad : Nat → Nat} (hA : AdOK 58 Ad) {Wk : St → Int32 → Int32 → Int32 → Option St} {lw : Nat} (hlw : 5 ≤ lw) (hW : ∀ σ a b c o, Wk σ a b c = some o → CT l (wX cy Ad) D cy (AdA 58 Ad) yX6_walk cX6_walk 5 none lw [.ref (Ad 38), .int a, .int b, .int c] σ (o, none)) {σ : St} {p1 : Int32} {p2 : Int32} {p3 : Int32} {o : St} (hf : f_X6_hop Wk σ p1 p2 p3 = some o) : CT l (wX cy Ad) D cy (AdA 58 Ad) yX6_hop cX6_hop 5 none (lw + 1) [.ref (Ad 38), .int p1, .int p2, .int p3] σ (o, none) := by
  refine CT.of mf_X6_hop (wX_D hA) (Nat.le_of_ble_eq_true rfl) ?_
  intro E xl g
  have ho : ((o, none) : St × Option Value) = (o, none) := rfl
  unfold f_X6_hop at hf
  show XJ E (wX cy Ad σ) 0 [(0, .ref (Ad 38)), (1, .int p1), (2, .int p2), (3, .int p3)] []
  refine x_aload_n g 0 dX6_hop_0 rfl rfl ?_
  refine x_get g fl_X6_19 wx_38 rfl dX6_hop_1 ?_
  refine x_iload_n g 1 dX6_hop_4 rfl rfl ?_
  obtain ⟨r1, hgr1, hf⟩ := obind hf
  refine x_callV (r := (RX1, TX1, 6)) g xl [.int p1] [] [.int r1] (c_X1_isBroken hA hgr1) mf_X1_isBroken im_X1_isBroken se_X1_isBroken ml_X6_75 rfl wx_6 (by omega) (by decide) rfl (Nat.le_of_ble_eq_true rfl) dX6_hop_5 rfl rfl ?_
  refine x_if_eq g 15 dX6_hop_8 (by decide) hf (fun c8 hf => ?_) (fun c8 hf => ?_)
  · refine x_aload_n g 0 dX6_hop_15 rfl rfl ?_
    refine x_get g fl_X6_19 wx_38 rfl dX6_hop_16 ?_
    refine x_get g fl_X6_79 wx_6 rfl dX6_hop_19 ?_
    refine x_iload_n g 1 dX6_hop_22 rfl rfl ?_
    obtain ⟨r2, hgr2, hf⟩ := obind hf
    refine x_callV (r := (RX4, TX4, 3)) g xl [.int p1] [] [.int r2] (c_X4_endOf hA (by decide) hgr2) mf_X4_endOf im_X4_endOf se_X4_endOf ml_X6_83 rfl wx_7 (by omega) (by decide) rfl (Nat.le_of_ble_eq_true rfl) dX6_hop_23 rfl rfl ?_
    refine x_istore (lv' := [(4, .int r2), (0, .ref (Ad 38)), (1, .int p1), (2, .int p2), (3, .int p3)]) g dX6_hop_26 (by decide) rfl ?_
    refine x_iload g 0 dX6_hop_28 rfl ?_
    refine x_if_lt g 60 dX6_hop_30 (by decide) hf (fun c30 hf => ?_) (fun c30 hf => ?_)
    · refine x_iload g 0 dX6_hop_33 rfl ?_
      refine x_bipush g 9 dX6_hop_35 (by decide) ?_
      refine x_icmp_ge g 60 dX6_hop_37 (by decide) hf (fun c37 hf => ?_) (fun c37 hf => ?_)
      · refine x_aload_n g 1 dX6_hop_40 rfl rfl ?_
        refine x_get g fl_X6_15 wx_38 rfl dX6_hop_41 ?_
        refine x_iload g 0 dX6_hop_44 rfl ?_
        refine x_zald g wx_40 dX6_hop_46 hf (fun hf => ?_)
        refine x_if_ne g 60 dX6_hop_47 (by decide) hf (fun c47 hf => ?_) (fun c47 hf => ?_)
        · refine x_iload_n g 3 dX6_hop_50 rfl rfl ?_
          refine x_if_lt g 60 dX6_hop_51 (by decide) hf (fun c51 hf => ?_) (fun c51 hf => ?_)
          · refine x_iload_n g 3 dX6_hop_54 rfl rfl ?_
            refine x_bipush g 6 dX6_hop_55 (by decide) ?_
            refine x_icmp_lt g 61 dX6_hop_57 (by decide) hf (fun c57 hf => ?_) (fun c57 hf => ?_)
            · cases hf
              exact x_vret g rfl ho dX6_hop_60
            · refine x_aload_n g 1 dX6_hop_61 rfl rfl ?_
              refine x_get g fl_X6_9 wx_38 rfl dX6_hop_62 ?_
              refine x_iload_n g 3 dX6_hop_65 rfl rfl ?_
              refine x_iload_n g 2 dX6_hop_66 rfl rfl ?_
              refine x_iastB g wx_39 (sx_39 _ _) dX6_hop_67 hf (fun σ3 hf => ?_)
              refine x_aload_n g 1 dX6_hop_68 rfl rfl ?_
              refine x_get g fl_X6_15 wx_38 rfl dX6_hop_69 ?_
              refine x_iload g 0 dX6_hop_72 rfl ?_
              refine x_iconst g 1 dX6_hop_74 (by decide) ?_
              refine x_zastB g 1 rfl wx_40 (sx_40 _ _) dX6_hop_75 hf (fun σ4 hf => ?_)
              refine x_aload_n g 1 dX6_hop_76 rfl rfl ?_
              refine x_iload g 0 dX6_hop_77 rfl ?_
              refine x_iload_n g 3 dX6_hop_79 rfl rfl ?_
              refine x_iconst g 1 dX6_hop_80 (by decide) ?_
              refine x_iadd g dX6_hop_81 ?_
              refine x_iload_n g 4 dX6_hop_82 rfl rfl ?_
              refine x_aload_n g 1 dX6_hop_83 rfl rfl ?_
              refine x_get g fl_X6_19 wx_38 rfl dX6_hop_84 ?_
              refine x_iload_n g 2 dX6_hop_87 rfl rfl ?_
              refine x_iload_n g 3 dX6_hop_88 rfl rfl ?_
              refine x_iconst g 1 dX6_hop_89 (by decide) ?_
              refine x_iadd g dX6_hop_90 ?_
              obtain ⟨r5, hgr5, hf⟩ := obind hf
              refine x_callV (r := (RX1, TX1, 6)) g xl [.int p1, .int (p2 + 1)] [.int p3, .int (p2 + 1), .int r2, .ref (Ad 38)] [.int r5, .int p3, .int (p2 + 1), .int r2, .ref (Ad 38)] (c_X1_freeStarts hA hgr5) mf_X1_freeStarts im_X1_freeStarts se_X1_freeStarts ml_X6_47 rfl wx_6 (by omega) (by decide) rfl (Nat.le_of_ble_eq_true rfl) dX6_hop_91 rfl rfl ?_
              refine x_iand g dX6_hop_94 ?_
              obtain ⟨σ7, hgr6, hf⟩ := obind hf
              refine x_callV (r := (RX6, TX6, 9)) g xl [.int r2, .int (p2 + 1), .int (p3 &&& r5)] [] [] (hW σ4 _ _ _ _ hgr6) mf_X6_walk im_X6_walk se_X6_walk ml_X6_52 rfl wx_38 (by omega) (by decide) rfl (Nat.le_of_ble_eq_true rfl) dX6_hop_95 rfl rfl ?_
              refine x_aload_n g 1 dX6_hop_98 rfl rfl ?_
              refine x_get g fl_X6_15 wx_38 rfl dX6_hop_99 ?_
              refine x_iload g 0 dX6_hop_102 rfl ?_
              refine x_iconst g 0 dX6_hop_104 (by decide) ?_
              refine x_zastB g 0 rfl wx_40 (sx_40 _ _) dX6_hop_105 hf (fun σ8 hf => ?_)
              cases hf
              exact x_vret g rfl ho dX6_hop_106
          · cases hf
            exact x_vret g rfl ho dX6_hop_60
        · cases hf
          exact x_vret g rfl ho dX6_hop_60
      · cases hf
        exact x_vret g rfl ho dX6_hop_60
    · cases hf
      exact x_vret g rfl ho dX6_hop_60
  · refine x_iconst g (-1) dX6_hop_11 (by decide) ?_
    refine x_goto g 26 dX6_hop_12 (by decide) ?_
    refine x_istore (lv' := [(4, .int (-1)), (0, .ref (Ad 38)), (1, .int p1), (2, .int p2), (3, .int p3)]) g dX6_hop_26 (by decide) rfl ?_
    refine x_iload g 0 dX6_hop_28 rfl ?_
    refine x_if_lt_t g 60 dX6_hop_30 (by decide) (by decide) ?_
    cases hf
    exact x_vret g rfl ho dX6_hop_60
/-! SlotChip$Search.walk(III)V -/
def f_X6_walk_L27b (Wk : St → Int32 → Int32 → Int32 → Option St) (v1 : Int32) (v2 : Int32) (v3 : Int32) (K27 : St → Int32 → Option St) (σ : St) (v4 : Int32) : Option St :=
  if v4 ≤ 5 then
    (if (σ.1 6 0 7) = 0 then
      ((f_X11_linkOf v1 v4).bind fun r5 =>
      (f_X6_hop Wk σ r5 v2 v3).bind fun σ7 =>
      K27 σ7 (v4 + 1))
    else
      some σ)
  else
    some σ
def f_X6_walk_L27 (Wk : St → Int32 → Int32 → Int32 → Option St) (v1 : Int32) (v2 : Int32) (v3 : Int32) : Nat → St → Int32 → Option St
  | 0 => fun _ _ => none
  | n + 1 => f_X6_walk_L27b Wk v1 v2 v3 (f_X6_walk_L27 Wk v1 v2 v3 n)
def f_X6_walkb (Wk : St → Int32 → Int32 → Int32 → Option St) (σ : St) (p1 : Int32) (p2 : Int32) (p3 : Int32) : Option St :=
  if p1 = (σ.1 6 0 4) then
    ((f_X6_end σ p1 p2 p3).bind fun σ2 =>
    some σ2)
  else
    (if (σ.1 6 0 6) ≤ p2 then
      ((f_X6_end σ p1 p2 p3).bind fun σ4 =>
      some σ4)
    else
      f_X6_walk_L27 Wk p1 p2 p3 FU σ 2)
def f_X6_walk : Nat → St → Int32 → Int32 → Int32 → Option St
  | 0 => fun _ _ _ _ => none
  | d + 1 => f_X6_walkb (f_X6_walk d)
set_option maxHeartbeats 4000000 in
set_option maxRecDepth 100000 in
theorem l_X6_walk_L27 {E : EV} {l : Launch} {D : va_G} {cy : Nat → ClassId} {Ad : Nat → Nat} {out : St × Option Value} {o : St} {Wk : St → Int32 → Int32 → Int32 → Option St} {lw : Nat} (hA : AdOK 58 Ad) (xl : XL E l D (AdA 58 Ad)) (g : XG E (wX cy Ad) cy cX6_walk RX6 5 (lw + 2) none out) (hlw : 5 ≤ lw) (hW : ∀ σ a b c o, Wk σ a b c = some o → CT l (wX cy Ad) D cy (AdA 58 Ad) yX6_walk cX6_walk 5 none lw [.ref (Ad 38), .int a, .int b, .int c] σ (o, none)) (v1 : Int32) (v2 : Int32) (v3 : Int32) (ho : out = (o, none)) : ∀ (n : Nat) (σ : St) (v4 : Int32), f_X6_walk_L27 Wk v1 v2 v3 n σ v4 = some o → XJ E (wX cy Ad σ) 27 [(0, .ref (Ad 38)), (1, .int v1), (2, .int v2), (3, .int v3), (4, .int v4)] [] := by
  intro n
  induction n with
  | zero => intro _ _ hf; cases hf
  | succ n ih27 =>
    intro σ v4 hf
    replace hf : f_X6_walk_L27b Wk v1 v2 v3 (f_X6_walk_L27 Wk v1 v2 v3 n) σ v4 = some o := hf
    unfold f_X6_walk_L27b at hf
    refine x_iload g 4 dX6_walk_27 rfl ?_
    refine x_iconst g 5 dX6_walk_29 (by decide) ?_
    refine x_icmp_gt g 58 dX6_walk_30 (by decide) hf (fun c30 hf => ?_) (fun c30 hf => ?_)
    · refine x_aload_n g 0 dX6_walk_33 rfl rfl ?_
      refine x_get g fl_X6_33 wx_38 rfl dX6_walk_34 ?_
      refine x_if_ne g 58 dX6_walk_37 (by decide) hf (fun c37 hf => ?_) (fun c37 hf => ?_)
      · refine x_aload_n g 0 dX6_walk_40 rfl rfl ?_
        refine x_iload_n g 1 dX6_walk_41 rfl rfl ?_
        refine x_iload g 4 dX6_walk_42 rfl ?_
        obtain ⟨r5, hgr5, hf⟩ := obind hf
        refine x_callN g xl [.int v1, .int v4] [.ref (Ad 38)] [.int r5, .ref (Ad 38)] (c_X11_linkOf hA hgr5) mf_X11_linkOf sm_X11_linkOf nl_X6_43 (by omega) (by decide) rfl (Nat.le_of_ble_eq_true rfl) dX6_walk_44 rfl rfl ?_
        refine x_iload_n g 2 dX6_walk_47 rfl rfl ?_
        refine x_iload_n g 3 dX6_walk_48 rfl rfl ?_
        obtain ⟨σ7, hgr6, hf⟩ := obind hf
        refine x_callV (r := (RX6, TX6, 9)) g xl [.int r5, .int v2, .int v3] [] [] (c_X6_hop hA hlw hW hgr6) mf_X6_hop im_X6_hop se_X6_hop ml_X6_72 rfl wx_38 (by omega) (by decide) rfl (Nat.le_of_ble_eq_true rfl) dX6_walk_49 rfl rfl ?_
        refine x_iinc g 4 (v4 + 1) (lv' := [(4, .int (v4 + 1)), (0, .ref (Ad 38)), (1, .int v1), (2, .int v2), (3, .int v3)]) dX6_walk_52 rfl (by rfl) (by decide) rfl ?_
        refine x_goto g 27 dX6_walk_55 (by decide) ?_
        exact x_sub [1, 2, 3, 4, 0] rfl (ih27 _ _ hf)
      · cases hf
        exact x_vret g rfl ho dX6_walk_58
    · cases hf
      exact x_vret g rfl ho dX6_walk_58
set_option maxHeartbeats 4000000 in
set_option maxRecDepth 100000 in
theorem c_X6_walkb {l : Launch} {D : va_G} {cy : Nat → ClassId} {Ad : Nat → Nat} (hA : AdOK 58 Ad) {Wk : St → Int32 → Int32 → Int32 → Option St} {lw : Nat} (hlw : 5 ≤ lw) (hW : ∀ σ a b c o, Wk σ a b c = some o → CT l (wX cy Ad) D cy (AdA 58 Ad) yX6_walk cX6_walk 5 none lw [.ref (Ad 38), .int a, .int b, .int c] σ (o, none)) {σ : St} {p1 : Int32} {p2 : Int32} {p3 : Int32} {o : St} (hf : f_X6_walkb Wk σ p1 p2 p3 = some o) : CT l (wX cy Ad) D cy (AdA 58 Ad) yX6_walk cX6_walk 5 none (lw + 2) [.ref (Ad 38), .int p1, .int p2, .int p3] σ (o, none) := by
  refine CT.of mf_X6_walk (wX_D hA) (Nat.le_of_ble_eq_true rfl) ?_
  intro E xl g
  have ho : ((o, none) : St × Option Value) = (o, none) := rfl
  unfold f_X6_walkb at hf
  show XJ E (wX cy Ad σ) 0 [(0, .ref (Ad 38)), (1, .int p1), (2, .int p2), (3, .int p3)] []
  refine x_iload_n g 1 dX6_walk_0 rfl rfl ?_
  refine x_aload_n g 0 dX6_walk_1 rfl rfl ?_
  refine x_get g fl_X6_27 wx_38 rfl dX6_walk_2 ?_
  refine x_icmp_eq g 16 dX6_walk_5 (by decide) hf (fun c5 hf => ?_) (fun c5 hf => ?_)
  · refine x_aload_n g 0 dX6_walk_16 rfl rfl ?_
    refine x_iload_n g 1 dX6_walk_17 rfl rfl ?_
    refine x_iload_n g 2 dX6_walk_18 rfl rfl ?_
    refine x_iload_n g 3 dX6_walk_19 rfl rfl ?_
    obtain ⟨σ2, hgr1, hf⟩ := obind hf
    refine x_callV (r := (RX6, TX6, 9)) g xl [.int p1, .int p2, .int p3] [] [] (c_X6_end hA hgr1) mf_X6_end im_X6_end se_X6_end ml_X6_69 rfl wx_38 (by omega) (by decide) rfl (Nat.le_of_ble_eq_true rfl) dX6_walk_20 rfl rfl ?_
    cases hf
    exact x_vret g rfl ho dX6_walk_23
  · refine x_iload_n g 2 dX6_walk_8 rfl rfl ?_
    refine x_aload_n g 0 dX6_walk_9 rfl rfl ?_
    refine x_get g fl_X6_40 wx_38 rfl dX6_walk_10 ?_
    refine x_icmp_lt g 24 dX6_walk_13 (by decide) hf (fun c13 hf => ?_) (fun c13 hf => ?_)
    · refine x_aload_n g 0 dX6_walk_16 rfl rfl ?_
      refine x_iload_n g 1 dX6_walk_17 rfl rfl ?_
      refine x_iload_n g 2 dX6_walk_18 rfl rfl ?_
      refine x_iload_n g 3 dX6_walk_19 rfl rfl ?_
      obtain ⟨σ4, hgr3, hf⟩ := obind hf
      refine x_callV (r := (RX6, TX6, 9)) g xl [.int p1, .int p2, .int p3] [] [] (c_X6_end hA hgr3) mf_X6_end im_X6_end se_X6_end ml_X6_69 rfl wx_38 (by omega) (by decide) rfl (Nat.le_of_ble_eq_true rfl) dX6_walk_20 rfl rfl ?_
      cases hf
      exact x_vret g rfl ho dX6_walk_23
    · refine x_iconst g 2 dX6_walk_24 (by decide) ?_
      refine x_istore (lv' := [(4, .int 2), (0, .ref (Ad 38)), (1, .int p1), (2, .int p2), (3, .int p3)]) g dX6_walk_25 (by decide) rfl ?_
      exact x_sub [1, 2, 3, 4, 0] rfl (l_X6_walk_L27 hA xl g hlw hW _ _ _ ho FU _ _ hf)
theorem c_X6_walk {l : Launch} {D : va_G} {cy : Nat → ClassId} {Ad : Nat → Nat} (hA : AdOK 58 Ad) (d : Nat) : ∀ σ a b c o, f_X6_walk d σ a b c = some o → CT l (wX cy Ad) D cy (AdA 58 Ad) yX6_walk cX6_walk 5 none (5 + 2 * d) [.ref (Ad 38), .int a, .int b, .int c] σ (o, none) := by
  induction d with
  | zero => intro σ a b c o hf; cases hf
  | succ d ih =>
    intro σ a b c o hf
    exact c_X6_walkb hA (lw := 5 + 2 * d) (by omega) ih hf
/-! SlotChip$Search.find(IIII)Z -/
def f_X6_find_L48b (v2 : Int32) (K48 : St → Int32 → Option (St × Int32)) (σ : St) (v5 : Int32) : Option (St × Int32) :=
  if v5 ≤ 6 then
    (if (σ.1 6 0 7) = 0 then
      (if (σ.1 6 0 3) = 2 then
        (bnd (si σ 6 0 6 v5) fun σ7 =>
        (f_X11_linkOf v2 0).bind fun r8 =>
        (f_X1_freeStarts σ7 r8 0).bind fun r9 =>
        (f_X6_walk 8 σ7 v2 0 r9).bind fun σ11 =>
        K48 σ11 (v5 + 1))
      else
        (if (σ.1 6 0 8) = 0 then
          (bnd (si σ 6 0 6 v5) fun σ12 =>
          (f_X11_linkOf v2 0).bind fun r13 =>
          (f_X1_freeStarts σ12 r13 0).bind fun r14 =>
          (f_X6_walk 8 σ12 v2 0 r14).bind fun σ16 =>
          K48 σ16 (v5 + 1))
        else
          (chk (inb v2 9) (
            bnd (si σ 20 0 (Int32.toNatClampNeg v2) 0) fun σ17 =>
            if (σ17.1 6 0 7) = 0 then
              some (σ17, 0)
            else
              some (σ17, 1)))))
    else
      (chk (inb v2 9) (
        bnd (si σ 20 0 (Int32.toNatClampNeg v2) 0) fun σ18 =>
        if (σ18.1 6 0 7) = 0 then
          some (σ18, 0)
        else
          some (σ18, 1))))
  else
    (chk (inb v2 9) (
      bnd (si σ 20 0 (Int32.toNatClampNeg v2) 0) fun σ19 =>
      if (σ19.1 6 0 7) = 0 then
        some (σ19, 0)
      else
        some (σ19, 1)))
def f_X6_find_L48 (v2 : Int32) : Nat → St → Int32 → Option (St × Int32)
  | 0 => fun _ _ => none
  | n + 1 => f_X6_find_L48b v2 (f_X6_find_L48 v2 n)
def f_X6_find (σ : St) (p1 : Int32) (p2 : Int32) (p3 : Int32) (p4 : Int32) : Option (St × Int32) :=
  bnd (si σ 6 0 3 p1) fun σ1 =>
  bnd (si σ1 6 0 4 p3) fun σ2 =>
  bnd (si σ2 6 0 5 p4) fun σ3 =>
  bnd (si σ3 6 0 7 0) fun σ4 =>
  bnd (si σ4 6 0 8 0) fun σ5 =>
  if 0 ≤ p2 then
    (if 9 ≤ p2 then
      some (σ5, 0)
    else
      (chk (inb p2 9) (
        bnd (si σ5 20 0 (Int32.toNatClampNeg p2) 1) fun σ6 =>
        f_X6_find_L48 p2 FU σ6 1)))
  else
    some (σ5, 0)
set_option maxHeartbeats 4000000 in
set_option maxRecDepth 100000 in
theorem l_X6_find_L48 {E : EV} {l : Launch} {D : va_G} {cy : Nat → ClassId} {Ad : Nat → Nat} {out : St × Option Value} {o : (St × Int32)} (hA : AdOK 58 Ad) (xl : XL E l D (AdA 58 Ad)) (g : XG E (wX cy Ad) cy cX6_find RX6 6 22 (some .boolean) out) (v2 : Int32) (ho : out = (o.1, (some (.int o.2)))) : ∀ (n : Nat) (σ : St) (v5 : Int32), f_X6_find_L48 v2 n σ v5 = some o → XJ E (wX cy Ad σ) 48 [(0, .ref (Ad 38)), (2, .int v2), (5, .int v5)] [] := by
  intro n
  induction n with
  | zero => intro _ _ hf; cases hf
  | succ n ih48 =>
    intro σ v5 hf
    replace hf : f_X6_find_L48b v2 (f_X6_find_L48 v2 n) σ v5 = some o := hf
    unfold f_X6_find_L48b at hf
    refine x_iload g 2 dX6_find_48 rfl ?_
    refine x_bipush g 6 dX6_find_50 (by decide) ?_
    refine x_icmp_gt g 108 dX6_find_52 (by decide) hf (fun c52 hf => ?_) (fun c52 hf => ?_)
    · refine x_aload_n g 0 dX6_find_55 rfl rfl ?_
      refine x_get g fl_X6_33 wx_38 rfl dX6_find_56 ?_
      refine x_if_ne g 108 dX6_find_59 (by decide) hf (fun c59 hf => ?_) (fun c59 hf => ?_)
      · refine x_aload_n g 0 dX6_find_62 rfl rfl ?_
        refine x_get g fl_X6_23 wx_38 rfl dX6_find_63 ?_
        refine x_iconst g 2 dX6_find_66 (by decide) ?_
        refine x_icmp_eq g 77 dX6_find_67 (by decide) hf (fun c67 hf => ?_) (fun c67 hf => ?_)
        · refine x_aload_n g 0 dX6_find_77 rfl rfl ?_
          refine x_iload g 2 dX6_find_78 rfl ?_
          refine x_putB g tyX6 fl_X6_40 tyX6_ok nmX6 wx_38 rfl rfl rfl (Nat.le_of_ble_eq_true rfl) (sx_38_6 _) dX6_find_80 hf (fun σ7 hf => ?_)
          refine x_aload_n g 0 dX6_find_83 rfl rfl ?_
          refine x_iload_n g 1 dX6_find_84 rfl rfl ?_
          refine x_iconst g 0 dX6_find_85 (by decide) ?_
          refine x_aload_n g 0 dX6_find_86 rfl rfl ?_
          refine x_get g fl_X6_19 wx_38 rfl dX6_find_87 ?_
          refine x_iload_n g 1 dX6_find_90 rfl rfl ?_
          refine x_iconst g 0 dX6_find_91 (by decide) ?_
          obtain ⟨r8, hgr8, hf⟩ := obind hf
          refine x_callN g xl [.int v2, .int 0] [.ref (Ad 6), .int 0, .int v2, .ref (Ad 38)] [.int r8, .ref (Ad 6), .int 0, .int v2, .ref (Ad 38)] (c_X11_linkOf hA hgr8) mf_X11_linkOf sm_X11_linkOf nl_X6_43 (by decide) (by decide) rfl (Nat.le_of_ble_eq_true rfl) dX6_find_92 rfl rfl ?_
          refine x_iconst g 0 dX6_find_95 (by decide) ?_
          obtain ⟨r9, hgr9, hf⟩ := obind hf
          refine x_callV (r := (RX1, TX1, 6)) g xl [.int r8, .int 0] [.int 0, .int v2, .ref (Ad 38)] [.int r9, .int 0, .int v2, .ref (Ad 38)] (c_X1_freeStarts hA hgr9) mf_X1_freeStarts im_X1_freeStarts se_X1_freeStarts ml_X6_47 rfl wx_6 (by decide) (by decide) rfl (Nat.le_of_ble_eq_true rfl) dX6_find_96 rfl rfl ?_
          obtain ⟨σ11, hgr10, hf⟩ := obind hf
          refine x_callV (r := (RX6, TX6, 9)) g xl [.int v2, .int 0, .int r9] [] [] (c_X6_walk hA 8 _ _ _ _ _ hgr10) mf_X6_walk im_X6_walk se_X6_walk ml_X6_52 rfl wx_38 (by omega) (by decide) rfl (Nat.le_of_ble_eq_true rfl) dX6_find_99 rfl rfl ?_
          refine x_iinc g 2 (v5 + 1) (lv' := [(5, .int (v5 + 1)), (0, .ref (Ad 38)), (2, .int v2)]) dX6_find_102 rfl (by rfl) (by decide) rfl ?_
          refine x_goto g 48 dX6_find_105 (by decide) ?_
          exact x_sub [1, 2, 0] rfl (ih48 _ _ hf)
        · refine x_aload_n g 0 dX6_find_70 rfl rfl ?_
          refine x_get g fl_X6_36 wx_38 rfl dX6_find_71 ?_
          refine x_if_ne g 108 dX6_find_74 (by decide) hf (fun c74 hf => ?_) (fun c74 hf => ?_)
          · refine x_aload_n g 0 dX6_find_77 rfl rfl ?_
            refine x_iload g 2 dX6_find_78 rfl ?_
            refine x_putB g tyX6 fl_X6_40 tyX6_ok nmX6 wx_38 rfl rfl rfl (Nat.le_of_ble_eq_true rfl) (sx_38_6 _) dX6_find_80 hf (fun σ12 hf => ?_)
            refine x_aload_n g 0 dX6_find_83 rfl rfl ?_
            refine x_iload_n g 1 dX6_find_84 rfl rfl ?_
            refine x_iconst g 0 dX6_find_85 (by decide) ?_
            refine x_aload_n g 0 dX6_find_86 rfl rfl ?_
            refine x_get g fl_X6_19 wx_38 rfl dX6_find_87 ?_
            refine x_iload_n g 1 dX6_find_90 rfl rfl ?_
            refine x_iconst g 0 dX6_find_91 (by decide) ?_
            obtain ⟨r13, hgr13, hf⟩ := obind hf
            refine x_callN g xl [.int v2, .int 0] [.ref (Ad 6), .int 0, .int v2, .ref (Ad 38)] [.int r13, .ref (Ad 6), .int 0, .int v2, .ref (Ad 38)] (c_X11_linkOf hA hgr13) mf_X11_linkOf sm_X11_linkOf nl_X6_43 (by decide) (by decide) rfl (Nat.le_of_ble_eq_true rfl) dX6_find_92 rfl rfl ?_
            refine x_iconst g 0 dX6_find_95 (by decide) ?_
            obtain ⟨r14, hgr14, hf⟩ := obind hf
            refine x_callV (r := (RX1, TX1, 6)) g xl [.int r13, .int 0] [.int 0, .int v2, .ref (Ad 38)] [.int r14, .int 0, .int v2, .ref (Ad 38)] (c_X1_freeStarts hA hgr14) mf_X1_freeStarts im_X1_freeStarts se_X1_freeStarts ml_X6_47 rfl wx_6 (by decide) (by decide) rfl (Nat.le_of_ble_eq_true rfl) dX6_find_96 rfl rfl ?_
            obtain ⟨σ16, hgr15, hf⟩ := obind hf
            refine x_callV (r := (RX6, TX6, 9)) g xl [.int v2, .int 0, .int r14] [] [] (c_X6_walk hA 8 _ _ _ _ _ hgr15) mf_X6_walk im_X6_walk se_X6_walk ml_X6_52 rfl wx_38 (by omega) (by decide) rfl (Nat.le_of_ble_eq_true rfl) dX6_find_99 rfl rfl ?_
            refine x_iinc g 2 (v5 + 1) (lv' := [(5, .int (v5 + 1)), (0, .ref (Ad 38)), (2, .int v2)]) dX6_find_102 rfl (by rfl) (by decide) rfl ?_
            refine x_goto g 48 dX6_find_105 (by decide) ?_
            exact x_sub [1, 2, 0] rfl (ih48 _ _ hf)
          · refine x_aload_n g 0 dX6_find_108 rfl rfl ?_
            refine x_get g fl_X6_15 wx_38 rfl dX6_find_109 ?_
            refine x_iload_n g 1 dX6_find_112 rfl rfl ?_
            refine x_iconst g 0 dX6_find_113 (by decide) ?_
            refine x_zastB g 0 rfl wx_40 (sx_40 _ _) dX6_find_114 hf (fun σ17 hf => ?_)
            refine x_aload_n g 0 dX6_find_115 rfl rfl ?_
            refine x_get g fl_X6_33 wx_38 rfl dX6_find_116 ?_
            refine x_if_eq g 126 dX6_find_119 (by decide) hf (fun c119 hf => ?_) (fun c119 hf => ?_)
            · refine x_iconst g 0 dX6_find_126 (by decide) ?_
              cases hf
              exact x_zret g rfl (by decide) ho dX6_find_127
            · refine x_iconst g 1 dX6_find_122 (by decide) ?_
              refine x_goto g 127 dX6_find_123 (by decide) ?_
              cases hf
              exact x_zret g rfl (by decide) ho dX6_find_127
      · refine x_aload_n g 0 dX6_find_108 rfl rfl ?_
        refine x_get g fl_X6_15 wx_38 rfl dX6_find_109 ?_
        refine x_iload_n g 1 dX6_find_112 rfl rfl ?_
        refine x_iconst g 0 dX6_find_113 (by decide) ?_
        refine x_zastB g 0 rfl wx_40 (sx_40 _ _) dX6_find_114 hf (fun σ18 hf => ?_)
        refine x_aload_n g 0 dX6_find_115 rfl rfl ?_
        refine x_get g fl_X6_33 wx_38 rfl dX6_find_116 ?_
        refine x_if_eq g 126 dX6_find_119 (by decide) hf (fun c119 hf => ?_) (fun c119 hf => ?_)
        · refine x_iconst g 0 dX6_find_126 (by decide) ?_
          cases hf
          exact x_zret g rfl (by decide) ho dX6_find_127
        · refine x_iconst g 1 dX6_find_122 (by decide) ?_
          refine x_goto g 127 dX6_find_123 (by decide) ?_
          cases hf
          exact x_zret g rfl (by decide) ho dX6_find_127
    · refine x_aload_n g 0 dX6_find_108 rfl rfl ?_
      refine x_get g fl_X6_15 wx_38 rfl dX6_find_109 ?_
      refine x_iload_n g 1 dX6_find_112 rfl rfl ?_
      refine x_iconst g 0 dX6_find_113 (by decide) ?_
      refine x_zastB g 0 rfl wx_40 (sx_40 _ _) dX6_find_114 hf (fun σ19 hf => ?_)
      refine x_aload_n g 0 dX6_find_115 rfl rfl ?_
      refine x_get g fl_X6_33 wx_38 rfl dX6_find_116 ?_
      refine x_if_eq g 126 dX6_find_119 (by decide) hf (fun c119 hf => ?_) (fun c119 hf => ?_)
      · refine x_iconst g 0 dX6_find_126 (by decide) ?_
        cases hf
        exact x_zret g rfl (by decide) ho dX6_find_127
      · refine x_iconst g 1 dX6_find_122 (by decide) ?_
        refine x_goto g 127 dX6_find_123 (by decide) ?_
        cases hf
        exact x_zret g rfl (by decide) ho dX6_find_127
set_option maxHeartbeats 4000000 in
set_option maxRecDepth 100000 in
theorem c_X6_find {l : Launch} {D : va_G} {cy : Nat → ClassId} {Ad : Nat → Nat} (hA : AdOK 58 Ad) {σ : St} {p1 : Int32} {p2 : Int32} {p3 : Int32} {p4 : Int32} {o : (St × Int32)} (hf : f_X6_find σ p1 p2 p3 p4 = some o) : CT l (wX cy Ad) D cy (AdA 58 Ad) yX6_find cX6_find 6 (some .boolean) 22 [.ref (Ad 38), .int p1, .int p2, .int p3, .int p4] σ (o.1, (some (.int o.2))) := by
  refine CT.of mf_X6_find (wX_D hA) (Nat.le_of_ble_eq_true rfl) ?_
  intro E xl g
  have ho : ((o.1, (some (.int o.2))) : St × Option Value) = (o.1, (some (.int o.2))) := rfl
  unfold f_X6_find at hf
  show XJ E (wX cy Ad σ) 0 [(0, .ref (Ad 38)), (1, .int p1), (2, .int p2), (3, .int p3), (4, .int p4)] []
  refine x_aload_n g 0 dX6_find_0 rfl rfl ?_
  refine x_iload_n g 1 dX6_find_1 rfl rfl ?_
  refine x_putB g tyX6 fl_X6_23 tyX6_ok nmX6 wx_38 rfl rfl rfl (Nat.le_of_ble_eq_true rfl) (sx_38_3 _) dX6_find_2 hf (fun σ1 hf => ?_)
  refine x_aload_n g 0 dX6_find_5 rfl rfl ?_
  refine x_iload_n g 3 dX6_find_6 rfl rfl ?_
  refine x_putB g tyX6 fl_X6_27 tyX6_ok nmX6 wx_38 rfl rfl rfl (Nat.le_of_ble_eq_true rfl) (sx_38_4 _) dX6_find_7 hf (fun σ2 hf => ?_)
  refine x_aload_n g 0 dX6_find_10 rfl rfl ?_
  refine x_iload g 4 dX6_find_11 rfl ?_
  refine x_putB g tyX6 fl_X6_30 tyX6_ok nmX6 wx_38 rfl rfl rfl (Nat.le_of_ble_eq_true rfl) (sx_38_5 _) dX6_find_13 hf (fun σ3 hf => ?_)
  refine x_aload_n g 0 dX6_find_16 rfl rfl ?_
  refine x_iconst g 0 dX6_find_17 (by decide) ?_
  refine x_putB g tyX6 fl_X6_33 tyX6_ok nmX6 wx_38 rfl rfl rfl (Nat.le_of_ble_eq_true rfl) (sx_38_7 _) dX6_find_18 hf (fun σ4 hf => ?_)
  refine x_aload_n g 0 dX6_find_21 rfl rfl ?_
  refine x_iconst g 0 dX6_find_22 (by decide) ?_
  refine x_putB g tyX6 fl_X6_36 tyX6_ok nmX6 wx_38 rfl rfl rfl (Nat.le_of_ble_eq_true rfl) (sx_38_8 _) dX6_find_23 hf (fun σ5 hf => ?_)
  refine x_iload_n g 2 dX6_find_26 rfl rfl ?_
  refine x_if_lt g 36 dX6_find_27 (by decide) hf (fun c27 hf => ?_) (fun c27 hf => ?_)
  · refine x_iload_n g 2 dX6_find_30 rfl rfl ?_
    refine x_bipush g 9 dX6_find_31 (by decide) ?_
    refine x_icmp_lt g 38 dX6_find_33 (by decide) hf (fun c33 hf => ?_) (fun c33 hf => ?_)
    · refine x_iconst g 0 dX6_find_36 (by decide) ?_
      cases hf
      exact x_zret g rfl (by decide) ho dX6_find_37
    · refine x_aload_n g 0 dX6_find_38 rfl rfl ?_
      refine x_get g fl_X6_15 wx_38 rfl dX6_find_39 ?_
      refine x_iload_n g 2 dX6_find_42 rfl rfl ?_
      refine x_iconst g 1 dX6_find_43 (by decide) ?_
      refine x_zastB g 1 rfl wx_40 (sx_40 _ _) dX6_find_44 hf (fun σ6 hf => ?_)
      refine x_iconst g 1 dX6_find_45 (by decide) ?_
      refine x_istore (lv' := [(5, .int 1), (0, .ref (Ad 38)), (1, .int p1), (2, .int p2), (3, .int p3), (4, .int p4)]) g dX6_find_46 (by decide) rfl ?_
      exact x_sub [1, 3, 0] rfl (l_X6_find_L48 hA xl g _ ho FU _ _ hf)
  · refine x_iconst g 0 dX6_find_36 (by decide) ?_
    cases hf
    exact x_zret g rfl (by decide) ho dX6_find_37
/-! SlotChip$Circuit.set(IIIIII)V -/
def f_X2_set_L72b (i0 : Nat) (K72 : St → Int32 → Option St) (σ : St) (v7 : Int32) : Option St :=
  if v7 < 8 then
    (chk (inb v7 8) (
      bnd (si σ 18 i0 (Int32.toNatClampNeg v7) (-1)) fun σ14 =>
      K72 σ14 (v7 + 1)))
  else
    some σ
def f_X2_set_L72 (i0 : Nat) : Nat → St → Int32 → Option St
  | 0 => fun _ _ => none
  | n + 1 => f_X2_set_L72b i0 (f_X2_set_L72 i0 n)
def f_X2_set (σ : St) (i : Nat) (p1 : Int32) (p2 : Int32) (p3 : Int32) (p4 : Int32) (p5 : Int32) (p6 : Int32) : Option St :=
  bnd (si σ 2 i 1 1) fun σ1 =>
  bnd (si σ1 2 i 2 p1) fun σ2 =>
  bnd (si σ2 2 i 3 p2) fun σ3 =>
  bnd (si σ3 2 i 4 p3) fun σ4 =>
  bnd (si σ4 2 i 5 p4) fun σ5 =>
  bnd (si σ5 2 i 13 p5) fun σ6 =>
  bnd (si σ6 2 i 14 p6) fun σ7 =>
  bnd (si σ7 2 i 7 (-1)) fun σ8 =>
  bnd (si σ8 2 i 8 0) fun σ9 =>
  bnd (si σ9 2 i 11 p5) fun σ10 =>
  bnd (si σ10 2 i 9 0) fun σ11 =>
  bnd (si σ11 2 i 10 0) fun σ12 =>
  bnd (si σ12 2 i 12 0) fun σ13 =>
  f_X2_set_L72 i FU σ13 0
set_option maxHeartbeats 4000000 in
set_option maxRecDepth 100000 in
theorem l_X2_set_L72 {E : EV} {l : Launch} {D : va_G} {cy : Nat → ClassId} {Ad : Nat → Nat} {out : St × Option Value} {o : St} (hA : AdOK 58 Ad) (xl : XL E l D (AdA 58 Ad)) (g : XG E (wX cy Ad) cy cX2_set RX2 8 0 none out) (i0 : Nat) (ho : out = (o, none)) (h_i0 : i0 < 8) : ∀ (n : Nat) (σ : St) (v7 : Int32), f_X2_set_L72 i0 n σ v7 = some o → XJ E (wX cy Ad σ) 72 [(0, .ref (Ad (14 + 3 * i0))), (7, .int v7)] [] := by
  intro n
  induction n with
  | zero => intro _ _ hf; cases hf
  | succ n ih72 =>
    intro σ v7 hf
    replace hf : f_X2_set_L72b i0 (f_X2_set_L72 i0 n) σ v7 = some o := hf
    unfold f_X2_set_L72b at hf
    refine x_iload g 1 dX2_set_72 rfl ?_
    refine x_bipush g 8 dX2_set_74 (by decide) ?_
    refine x_icmp_ge g 93 dX2_set_76 (by decide) hf (fun c76 hf => ?_) (fun c76 hf => ?_)
    · refine x_aload_n g 0 dX2_set_79 rfl rfl ?_
      refine x_get g fl_X2_15 (wx_C h_i0) rfl dX2_set_80 ?_
      refine x_iload g 1 dX2_set_83 rfl ?_
      refine x_iconst g (-1) dX2_set_85 (by decide) ?_
      refine x_iastB g (wx_Ct h_i0) (sx_Ct h_i0 _ _) dX2_set_86 hf (fun σ14 hf => ?_)
      refine x_iinc g 1 (v7 + 1) (lv' := [(7, .int (v7 + 1)), (0, .ref (Ad (14 + 3 * i0)))]) dX2_set_87 rfl (by rfl) (by decide) rfl ?_
      refine x_goto g 72 dX2_set_90 (by decide) ?_
      exact x_sub [1, 0] rfl (ih72 _ _ hf)
    · cases hf
      exact x_vret g rfl ho dX2_set_93
set_option maxHeartbeats 4000000 in
set_option maxRecDepth 100000 in
theorem c_X2_set {l : Launch} {D : va_G} {cy : Nat → ClassId} {Ad : Nat → Nat} (hA : AdOK 58 Ad) {σ : St} {i : Nat} {p1 : Int32} {p2 : Int32} {p3 : Int32} {p4 : Int32} {p5 : Int32} {p6 : Int32} (h_i : i < 8) {o : St} (hf : f_X2_set σ i p1 p2 p3 p4 p5 p6 = some o) : CT l (wX cy Ad) D cy (AdA 58 Ad) yX2_set cX2_set 8 none 0 [.ref (Ad (14 + 3 * i)), .int p1, .int p2, .int p3, .int p4, .int p5, .int p6] σ (o, none) := by
  refine CT.of mf_X2_set (wX_D hA) (Nat.le_of_ble_eq_true rfl) ?_
  intro E xl g
  have ho : ((o, none) : St × Option Value) = (o, none) := rfl
  unfold f_X2_set at hf
  show XJ E (wX cy Ad σ) 0 [(0, .ref (Ad (14 + 3 * i))), (1, .int p1), (2, .int p2), (3, .int p3), (4, .int p4), (5, .int p5), (6, .int p6)] []
  refine x_aload_n g 0 dX2_set_0 rfl rfl ?_
  refine x_iconst g 1 dX2_set_1 (by decide) ?_
  refine x_putB g tyX2 fl_X2_22 tyX2_ok nmX2 (wx_C h_i) rfl rfl rfl (Nat.le_of_ble_eq_true rfl) (sx_C_1 h_i _) dX2_set_2 hf (fun σ1 hf => ?_)
  refine x_aload_n g 0 dX2_set_5 rfl rfl ?_
  refine x_iload_n g 1 dX2_set_6 rfl rfl ?_
  refine x_putB g tyX2 fl_X2_26 tyX2_ok nmX2 (wx_C h_i) rfl rfl rfl (Nat.le_of_ble_eq_true rfl) (sx_C_2 h_i _) dX2_set_7 hf (fun σ2 hf => ?_)
  refine x_aload_n g 0 dX2_set_10 rfl rfl ?_
  refine x_iload_n g 2 dX2_set_11 rfl rfl ?_
  refine x_putB g tyX2 fl_X2_29 tyX2_ok nmX2 (wx_C h_i) rfl rfl rfl (Nat.le_of_ble_eq_true rfl) (sx_C_3 h_i _) dX2_set_12 hf (fun σ3 hf => ?_)
  refine x_aload_n g 0 dX2_set_15 rfl rfl ?_
  refine x_iload_n g 3 dX2_set_16 rfl rfl ?_
  refine x_putB g tyX2 fl_X2_32 tyX2_ok nmX2 (wx_C h_i) rfl rfl rfl (Nat.le_of_ble_eq_true rfl) (sx_C_4 h_i _) dX2_set_17 hf (fun σ4 hf => ?_)
  refine x_aload_n g 0 dX2_set_20 rfl rfl ?_
  refine x_iload g 4 dX2_set_21 rfl ?_
  refine x_putB g tyX2 fl_X2_35 tyX2_ok nmX2 (wx_C h_i) rfl rfl rfl (Nat.le_of_ble_eq_true rfl) (sx_C_5 h_i _) dX2_set_23 hf (fun σ5 hf => ?_)
  refine x_aload_n g 0 dX2_set_26 rfl rfl ?_
  refine x_iload g 5 dX2_set_27 rfl ?_
  refine x_putB g tyX2 fl_X2_38 tyX2_ok nmX2 (wx_C h_i) rfl rfl rfl (Nat.le_of_ble_eq_true rfl) (sx_C_13 h_i _) dX2_set_29 hf (fun σ6 hf => ?_)
  refine x_aload_n g 0 dX2_set_32 rfl rfl ?_
  refine x_iload g 6 dX2_set_33 rfl ?_
  refine x_putB g tyX2 fl_X2_41 tyX2_ok nmX2 (wx_C h_i) rfl rfl rfl (Nat.le_of_ble_eq_true rfl) (sx_C_14 h_i _) dX2_set_35 hf (fun σ7 hf => ?_)
  refine x_aload_n g 0 dX2_set_38 rfl rfl ?_
  refine x_iconst g (-1) dX2_set_39 (by decide) ?_
  refine x_putB g tyX2 fl_X2_44 tyX2_ok nmX2 (wx_C h_i) rfl rfl rfl (Nat.le_of_ble_eq_true rfl) (sx_C_7 h_i _) dX2_set_40 hf (fun σ8 hf => ?_)
  refine x_aload_n g 0 dX2_set_43 rfl rfl ?_
  refine x_iconst g 0 dX2_set_44 (by decide) ?_
  refine x_putB g tyX2 fl_X2_47 tyX2_ok nmX2 (wx_C h_i) rfl rfl rfl (Nat.le_of_ble_eq_true rfl) (sx_C_8 h_i _) dX2_set_45 hf (fun σ9 hf => ?_)
  refine x_aload_n g 0 dX2_set_48 rfl rfl ?_
  refine x_iload g 5 dX2_set_49 rfl ?_
  refine x_putB g tyX2 fl_X2_50 tyX2_ok nmX2 (wx_C h_i) rfl rfl rfl (Nat.le_of_ble_eq_true rfl) (sx_C_11 h_i _) dX2_set_51 hf (fun σ10 hf => ?_)
  refine x_aload_n g 0 dX2_set_54 rfl rfl ?_
  refine x_iconst g 0 dX2_set_55 (by decide) ?_
  refine x_putB g tyX2 fl_X2_53 tyX2_ok nmX2 (wx_C h_i) rfl rfl rfl (Nat.le_of_ble_eq_true rfl) (sx_C_9 h_i _) dX2_set_56 hf (fun σ11 hf => ?_)
  refine x_aload_n g 0 dX2_set_59 rfl rfl ?_
  refine x_iconst g 0 dX2_set_60 (by decide) ?_
  refine x_putB g tyX2 fl_X2_56 tyX2_ok nmX2 (wx_C h_i) rfl rfl rfl (Nat.le_of_ble_eq_true rfl) (sx_C_10 h_i _) dX2_set_61 hf (fun σ12 hf => ?_)
  refine x_aload_n g 0 dX2_set_64 rfl rfl ?_
  refine x_iconst g 0 dX2_set_65 (by decide) ?_
  refine x_putB g tyX2 fl_X2_59 tyX2_ok nmX2 (wx_C h_i) rfl rfl rfl (Nat.le_of_ble_eq_true rfl) (sx_C_12 h_i _) dX2_set_66 hf (fun σ13 hf => ?_)
  refine x_iconst g 0 dX2_set_69 (by decide) ?_
  refine x_istore (lv' := [(7, .int 0), (0, .ref (Ad (14 + 3 * i))), (1, .int p1), (2, .int p2), (3, .int p3), (4, .int p4), (5, .int p5), (6, .int p6)]) g dX2_set_70 (by decide) rfl ?_
  exact x_sub [1, 0] rfl (l_X2_set_L72 hA xl g _ ho h_i FU _ _ hf)
/-! SlotChip$Circuit.setRoute([III)V -/
def f_X2_setRoute_L41b (i0 : Nat) (K41 : St → Int32 → Option St) (σ : St) (v4 : Int32) : Option St :=
  if v4 < (σ.1 2 i0 6) then
    (chk (inb v4 6) (
      chk (inb (v4 + 1) 8) (
        bnd (si σ 17 i0 (Int32.toNatClampNeg (v4 + 1)) (σ.1 19 0 (Int32.toNatClampNeg v4))) fun σ5 =>
        K41 σ5 (v4 + 1))))
  else
    ((f_X11_linkOf (σ.1 2 i0 4) 1).bind fun r6 =>
    chk (inb ((σ.1 2 i0 6) + 1) 8) (
      bnd (si σ 17 i0 (Int32.toNatClampNeg ((σ.1 2 i0 6) + 1)) r6) fun σ7 =>
      some σ7))
def f_X2_setRoute_L41 (i0 : Nat) : Nat → St → Int32 → Option St
  | 0 => fun _ _ => none
  | n + 1 => f_X2_setRoute_L41b i0 (f_X2_setRoute_L41 i0 n)
def f_X2_setRoute (σ : St) (i : Nat) (p2 : Int32) (p3 : Int32) : Option St :=
  bnd (si σ 2 i 6 (if 0 < (if 6 < (if 6 < p2 then 6 else p2) then 6 else (if 6 < p2 then 6 else p2)) then (if 6 < (if 6 < p2 then 6 else p2) then 6 else (if 6 < p2 then 6 else p2)) else 0)) fun σ1 =>
  bnd (si σ1 2 i 15 p3) fun σ2 =>
  (f_X11_linkOf (σ2.1 2 i 3) 0).bind fun r3 =>
  bnd (si σ2 17 i 0 r3) fun σ4 =>
  f_X2_setRoute_L41 i FU σ4 0
set_option maxHeartbeats 4000000 in
set_option maxRecDepth 100000 in
theorem l_X2_setRoute_L41 {E : EV} {l : Launch} {D : va_G} {cy : Nat → ClassId} {Ad : Nat → Nat} {out : St × Option Value} {o : St} (hA : AdOK 58 Ad) (xl : XL E l D (AdA 58 Ad)) (g : XG E (wX cy Ad) cy cX2_setRoute RX2 5 1 none out) (i0 : Nat) (ho : out = (o, none)) (h_i0 : i0 < 8) : ∀ (n : Nat) (σ : St) (v4 : Int32), f_X2_setRoute_L41 i0 n σ v4 = some o → XJ E (wX cy Ad σ) 41 [(0, .ref (Ad (14 + 3 * i0))), (1, .ref (Ad 39)), (4, .int v4)] [] := by
  intro n
  induction n with
  | zero => intro _ _ hf; cases hf
  | succ n ih41 =>
    intro σ v4 hf
    replace hf : f_X2_setRoute_L41b i0 (f_X2_setRoute_L41 i0 n) σ v4 = some o := hf
    unfold f_X2_setRoute_L41b at hf
    refine x_iload g 2 dX2_setRoute_41 rfl ?_
    refine x_aload_n g 0 dX2_setRoute_43 rfl rfl ?_
    refine x_get g fl_X2_71 (wx_C h_i0) rfl dX2_setRoute_44 ?_
    refine x_icmp_ge g 69 dX2_setRoute_47 (by decide) hf (fun c47 hf => ?_) (fun c47 hf => ?_)
    · refine x_aload_n g 0 dX2_setRoute_50 rfl rfl ?_
      refine x_get g fl_X2_9 (wx_C h_i0) rfl dX2_setRoute_51 ?_
      refine x_iload g 2 dX2_setRoute_54 rfl ?_
      refine x_iconst g 1 dX2_setRoute_56 (by decide) ?_
      refine x_iadd g dX2_setRoute_57 ?_
      refine x_aload_n g 1 dX2_setRoute_58 rfl rfl ?_
      refine x_iload g 2 dX2_setRoute_59 rfl ?_
      refine x_iald g wx_39 dX2_setRoute_61 hf (fun hf => ?_)
      refine x_iastB g (wx_Cl h_i0) (sx_Cl h_i0 _ _) dX2_setRoute_62 hf (fun σ5 hf => ?_)
      refine x_iinc g 2 (v4 + 1) (lv' := [(4, .int (v4 + 1)), (0, .ref (Ad (14 + 3 * i0))), (1, .ref (Ad 39))]) dX2_setRoute_63 rfl (by rfl) (by decide) rfl ?_
      refine x_goto g 41 dX2_setRoute_66 (by decide) ?_
      exact x_sub [1, 2, 0] rfl (ih41 _ _ hf)
    · refine x_aload_n g 0 dX2_setRoute_69 rfl rfl ?_
      refine x_get g fl_X2_9 (wx_C h_i0) rfl dX2_setRoute_70 ?_
      refine x_aload_n g 0 dX2_setRoute_73 rfl rfl ?_
      refine x_get g fl_X2_71 (wx_C h_i0) rfl dX2_setRoute_74 ?_
      refine x_iconst g 1 dX2_setRoute_77 (by decide) ?_
      refine x_iadd g dX2_setRoute_78 ?_
      refine x_aload_n g 0 dX2_setRoute_79 rfl rfl ?_
      refine x_get g fl_X2_32 (wx_C h_i0) rfl dX2_setRoute_80 ?_
      refine x_iconst g 1 dX2_setRoute_83 (by decide) ?_
      obtain ⟨r6, hgr6, hf⟩ := obind hf
      refine x_callN g xl [.int (σ.1 2 i0 4), .int 1] [.int ((σ.1 2 i0 6) + 1), .ref (Ad (14 + 3 * i0 + 1))] [.int r6, .int ((σ.1 2 i0 6) + 1), .ref (Ad (14 + 3 * i0 + 1))] (c_X11_linkOf hA hgr6) mf_X11_linkOf sm_X11_linkOf nl_X2_77 (by decide) (by decide) rfl (Nat.le_of_ble_eq_true rfl) dX2_setRoute_84 rfl rfl ?_
      refine x_iastB g (wx_Cl h_i0) (sx_Cl h_i0 _ _) dX2_setRoute_87 hf (fun σ7 hf => ?_)
      cases hf
      exact x_vret g rfl ho dX2_setRoute_88
set_option maxHeartbeats 4000000 in
set_option maxRecDepth 100000 in
theorem c_X2_setRoute {l : Launch} {D : va_G} {cy : Nat → ClassId} {Ad : Nat → Nat} (hA : AdOK 58 Ad) {σ : St} {i : Nat} {p2 : Int32} {p3 : Int32} (h_i : i < 8) {o : St} (hf : f_X2_setRoute σ i p2 p3 = some o) : CT l (wX cy Ad) D cy (AdA 58 Ad) yX2_setRoute cX2_setRoute 5 none 1 [.ref (Ad (14 + 3 * i)), .ref (Ad 39), .int p2, .int p3] σ (o, none) := by
  refine CT.of mf_X2_setRoute (wX_D hA) (Nat.le_of_ble_eq_true rfl) ?_
  intro E xl g
  have ho : ((o, none) : St × Option Value) = (o, none) := rfl
  unfold f_X2_setRoute at hf
  show XJ E (wX cy Ad σ) 0 [(0, .ref (Ad (14 + 3 * i))), (1, .ref (Ad 39)), (2, .int p2), (3, .int p3)] []
  refine x_aload_n g 0 dX2_setRoute_0 rfl rfl ?_
  refine x_iconst g 0 dX2_setRoute_1 (by decide) ?_
  refine x_iload_n g 2 dX2_setRoute_2 rfl rfl ?_
  refine x_bipush g 6 dX2_setRoute_3 (by decide) ?_
  refine x_mmin g ml_X2_62 (by decide) (Nat.le_of_ble_eq_true rfl) dX2_setRoute_5 ?_
  refine x_aload_n g 1 dX2_setRoute_8 rfl rfl ?_
  refine x_alen g (t0 := 0) rfl wx_39 6 rfl dX2_setRoute_9 ?_
  refine x_mmin g ml_X2_62 (by decide) (Nat.le_of_ble_eq_true rfl) dX2_setRoute_10 ?_
  refine x_mmax g ml_X2_68 (by decide) (Nat.le_of_ble_eq_true rfl) dX2_setRoute_13 ?_
  refine x_putB g tyX2 fl_X2_71 tyX2_ok nmX2 (wx_C h_i) rfl rfl rfl (Nat.le_of_ble_eq_true rfl) (sx_C_6 h_i _) dX2_setRoute_16 hf (fun σ1 hf => ?_)
  refine x_aload_n g 0 dX2_setRoute_19 rfl rfl ?_
  refine x_iload_n g 3 dX2_setRoute_20 rfl rfl ?_
  refine x_putB g tyX2 fl_X2_74 tyX2_ok nmX2 (wx_C h_i) rfl rfl rfl (Nat.le_of_ble_eq_true rfl) (sx_C_15 h_i _) dX2_setRoute_21 hf (fun σ2 hf => ?_)
  refine x_aload_n g 0 dX2_setRoute_24 rfl rfl ?_
  refine x_get g fl_X2_9 (wx_C h_i) rfl dX2_setRoute_25 ?_
  refine x_iconst g 0 dX2_setRoute_28 (by decide) ?_
  refine x_aload_n g 0 dX2_setRoute_29 rfl rfl ?_
  refine x_get g fl_X2_29 (wx_C h_i) rfl dX2_setRoute_30 ?_
  refine x_iconst g 0 dX2_setRoute_33 (by decide) ?_
  obtain ⟨r3, hgr3, hf⟩ := obind hf
  refine x_callN g xl [.int (σ2.1 2 i 3), .int 0] [.int 0, .ref (Ad (14 + 3 * i + 1))] [.int r3, .int 0, .ref (Ad (14 + 3 * i + 1))] (c_X11_linkOf hA hgr3) mf_X11_linkOf sm_X11_linkOf nl_X2_77 (by decide) (by decide) rfl (Nat.le_of_ble_eq_true rfl) dX2_setRoute_34 rfl rfl ?_
  refine x_iastB g (wx_Cl h_i) (sx_Cl h_i _ _) dX2_setRoute_37 (chk_of (by decide) hf) (fun σ4 hf => ?_)
  refine x_iconst g 0 dX2_setRoute_38 (by decide) ?_
  refine x_istore (lv' := [(4, .int 0), (0, .ref (Ad (14 + 3 * i))), (1, .ref (Ad 39)), (2, .int p2), (3, .int p3)]) g dX2_setRoute_39 (by decide) rfl ?_
  exact x_sub [1, 2, 0] rfl (l_X2_setRoute_L41 hA xl g _ ho h_i FU _ _ hf)
/-! SlotChip$Circuit.places()I -/
def f_X2_places (σ : St) (i : Nat) : Option Int32 :=
  some (if 8 < ((σ.1 2 i 6) + 2) then 8 else ((σ.1 2 i 6) + 2))
set_option maxHeartbeats 4000000 in
set_option maxRecDepth 100000 in
theorem c_X2_places {l : Launch} {D : va_G} {cy : Nat → ClassId} {Ad : Nat → Nat} (hA : AdOK 58 Ad) {σ : St} {i : Nat} (h_i : i < 8) {o : Int32} (hf : f_X2_places σ i = some o) : CT l (wX cy Ad) D cy (AdA 58 Ad) yX2_places cX2_places 1 (some .int) 1 [.ref (Ad (14 + 3 * i))] σ (σ, (some (.int o))) := by
  refine CT.of mf_X2_places (wX_D hA) (Nat.le_of_ble_eq_true rfl) ?_
  intro E xl g
  have ho : ((σ, (some (.int o))) : St × Option Value) = (σ, (some (.int o))) := rfl
  unfold f_X2_places at hf
  show XJ E (wX cy Ad σ) 0 [(0, .ref (Ad (14 + 3 * i)))] []
  refine x_aload_n g 0 dX2_places_0 rfl rfl ?_
  refine x_get g fl_X2_71 (wx_C h_i) rfl dX2_places_1 ?_
  refine x_iconst g 2 dX2_places_4 (by decide) ?_
  refine x_iadd g dX2_places_5 ?_
  refine x_bipush g 8 dX2_places_6 (by decide) ?_
  refine x_mmin g ml_X2_62 (by decide) (Nat.le_of_ble_eq_true rfl) dX2_places_8 ?_
  cases hf
  exact x_iret g rfl ho dX2_places_11
/-! SlotChip$Circuit.hasStart(I)Z -/
def f_X2_hasStart (σ : St) (i : Nat) (p1 : Int32) : Option Int32 :=
  if (((σ.1 2 i 15) >>> (p1 &&& 31)) &&& 1) = 1 then
    some 1
  else
    some 0
set_option maxHeartbeats 4000000 in
set_option maxRecDepth 100000 in
theorem c_X2_hasStart {l : Launch} {D : va_G} {cy : Nat → ClassId} {Ad : Nat → Nat} (hA : AdOK 58 Ad) {σ : St} {i : Nat} {p1 : Int32} (h_i : i < 8) {o : Int32} (hf : f_X2_hasStart σ i p1 = some o) : CT l (wX cy Ad) D cy (AdA 58 Ad) yX2_hasStart cX2_hasStart 2 (some .boolean) 0 [.ref (Ad (14 + 3 * i)), .int p1] σ (σ, (some (.int o))) := by
  refine CT.of mf_X2_hasStart (wX_D hA) (Nat.le_of_ble_eq_true rfl) ?_
  intro E xl g
  have ho : ((σ, (some (.int o))) : St × Option Value) = (σ, (some (.int o))) := rfl
  unfold f_X2_hasStart at hf
  show XJ E (wX cy Ad σ) 0 [(0, .ref (Ad (14 + 3 * i))), (1, .int p1)] []
  refine x_aload_n g 0 dX2_hasStart_0 rfl rfl ?_
  refine x_get g fl_X2_74 (wx_C h_i) rfl dX2_hasStart_1 ?_
  refine x_iload_n g 1 dX2_hasStart_4 rfl rfl ?_
  refine x_ishr g dX2_hasStart_5 ?_
  refine x_iconst g 1 dX2_hasStart_6 (by decide) ?_
  refine x_iand g dX2_hasStart_7 ?_
  refine x_iconst g 1 dX2_hasStart_8 (by decide) ?_
  refine x_icmp_ne g 16 dX2_hasStart_9 (by decide) hf (fun c9 hf => ?_) (fun c9 hf => ?_)
  · refine x_iconst g 1 dX2_hasStart_12 (by decide) ?_
    refine x_goto g 17 dX2_hasStart_13 (by decide) ?_
    cases hf
    exact x_zret g rfl (by decide) ho dX2_hasStart_17
  · refine x_iconst g 0 dX2_hasStart_16 (by decide) ?_
    cases hf
    exact x_zret g rfl (by decide) ho dX2_hasStart_17
/-! SlotChip$Circuit.linkAt(I)I -/
def f_X2_linkAt (σ : St) (i : Nat) (p1 : Int32) : Option Int32 :=
  if 0 ≤ p1 then
    (if 8 ≤ p1 then
      some (-1)
    else
      (chk (inb p1 8) (
        some (σ.1 17 i (Int32.toNatClampNeg p1)))))
  else
    some (-1)
set_option maxHeartbeats 4000000 in
set_option maxRecDepth 100000 in
theorem c_X2_linkAt {l : Launch} {D : va_G} {cy : Nat → ClassId} {Ad : Nat → Nat} (hA : AdOK 58 Ad) {σ : St} {i : Nat} {p1 : Int32} (h_i : i < 8) {o : Int32} (hf : f_X2_linkAt σ i p1 = some o) : CT l (wX cy Ad) D cy (AdA 58 Ad) yX2_linkAt cX2_linkAt 2 (some .int) 0 [.ref (Ad (14 + 3 * i)), .int p1] σ (σ, (some (.int o))) := by
  refine CT.of mf_X2_linkAt (wX_D hA) (Nat.le_of_ble_eq_true rfl) ?_
  intro E xl g
  have ho : ((σ, (some (.int o))) : St × Option Value) = (σ, (some (.int o))) := rfl
  unfold f_X2_linkAt at hf
  show XJ E (wX cy Ad σ) 0 [(0, .ref (Ad (14 + 3 * i))), (1, .int p1)] []
  refine x_iload_n g 1 dX2_linkAt_0 rfl rfl ?_
  refine x_if_lt g 10 dX2_linkAt_1 (by decide) hf (fun c1 hf => ?_) (fun c1 hf => ?_)
  · refine x_iload_n g 1 dX2_linkAt_4 rfl rfl ?_
    refine x_bipush g 8 dX2_linkAt_5 (by decide) ?_
    refine x_icmp_lt g 14 dX2_linkAt_7 (by decide) hf (fun c7 hf => ?_) (fun c7 hf => ?_)
    · refine x_iconst g (-1) dX2_linkAt_10 (by decide) ?_
      refine x_goto g 20 dX2_linkAt_11 (by decide) ?_
      cases hf
      exact x_iret g rfl ho dX2_linkAt_20
    · refine x_aload_n g 0 dX2_linkAt_14 rfl rfl ?_
      refine x_get g fl_X2_9 (wx_C h_i) rfl dX2_linkAt_15 ?_
      refine x_iload_n g 1 dX2_linkAt_18 rfl rfl ?_
      refine x_iald g (wx_Cl h_i) dX2_linkAt_19 hf (fun hf => ?_)
      cases hf
      exact x_iret g rfl ho dX2_linkAt_20
  · refine x_iconst g (-1) dX2_linkAt_10 (by decide) ?_
    refine x_goto g 20 dX2_linkAt_11 (by decide) ?_
    cases hf
    exact x_iret g rfl ho dX2_linkAt_20
/-! SlotChip$Board.setOwner(III)V -/
def f_X1_setOwner (σ : St) (p1 : Int32) (p2 : Int32) (p3 : Int32) : Option St :=
  (f_X11_isLinkNumber p1).bind fun r1 =>
  if r1 = 0 then
    some σ
  else
    (if 0 ≤ p2 then
      (if p2 < 10 then
        (chk (inb ((10 * p1) + p2) 540) (
          bnd (si σ 16 0 (Int32.toNatClampNeg ((10 * p1) + p2)) p3) fun σ2 =>
          some σ2))
      else
        some σ)
    else
      some σ)
set_option maxHeartbeats 4000000 in
set_option maxRecDepth 100000 in
theorem c_X1_setOwner {l : Launch} {D : va_G} {cy : Nat → ClassId} {Ad : Nat → Nat} (hA : AdOK 58 Ad) {σ : St} {p1 : Int32} {p2 : Int32} {p3 : Int32} {o : St} (hf : f_X1_setOwner σ p1 p2 p3 = some o) : CT l (wX cy Ad) D cy (AdA 58 Ad) yX1_setOwner cX1_setOwner 4 none 1 [.ref (Ad 6), .int p1, .int p2, .int p3] σ (o, none) := by
  refine CT.of mf_X1_setOwner (wX_D hA) (Nat.le_of_ble_eq_true rfl) ?_
  intro E xl g
  have ho : ((o, none) : St × Option Value) = (o, none) := rfl
  unfold f_X1_setOwner at hf
  show XJ E (wX cy Ad σ) 0 [(0, .ref (Ad 6)), (1, .int p1), (2, .int p2), (3, .int p3)] []
  refine x_iload_n g 1 dX1_setOwner_0 rfl rfl ?_
  obtain ⟨r1, hgr1, hf⟩ := obind hf
  refine x_callN g xl [.int p1] [] [.int r1] (c_X11_isLinkNumber hA hgr1) mf_X11_isLinkNumber sm_X11_isLinkNumber nl_X1_59 (by decide) (by decide) rfl (Nat.le_of_ble_eq_true rfl) dX1_setOwner_1 rfl rfl ?_
  refine x_if_eq g 29 dX1_setOwner_4 (by decide) hf (fun c4 hf => ?_) (fun c4 hf => ?_)
  · cases hf
    exact x_vret g rfl ho dX1_setOwner_29
  · refine x_iload_n g 2 dX1_setOwner_7 rfl rfl ?_
    refine x_if_lt g 29 dX1_setOwner_8 (by decide) hf (fun c8 hf => ?_) (fun c8 hf => ?_)
    · refine x_iload_n g 2 dX1_setOwner_11 rfl rfl ?_
      refine x_bipush g 10 dX1_setOwner_12 (by decide) ?_
      refine x_icmp_ge g 29 dX1_setOwner_14 (by decide) hf (fun c14 hf => ?_) (fun c14 hf => ?_)
      · refine x_aload_n g 0 dX1_setOwner_17 rfl rfl ?_
        refine x_get g fl_X1_26 wx_6 rfl dX1_setOwner_18 ?_
        refine x_bipush g 10 dX1_setOwner_21 (by decide) ?_
        refine x_iload_n g 1 dX1_setOwner_23 rfl rfl ?_
        refine x_imul g dX1_setOwner_24 ?_
        refine x_iload_n g 2 dX1_setOwner_25 rfl rfl ?_
        refine x_iadd g dX1_setOwner_26 ?_
        refine x_iload_n g 3 dX1_setOwner_27 rfl rfl ?_
        refine x_iastB g wx_11 (sx_11 _ _) dX1_setOwner_28 hf (fun σ2 hf => ?_)
        cases hf
        exact x_vret g rfl ho dX1_setOwner_29
      · cases hf
        exact x_vret g rfl ho dX1_setOwner_29
    · cases hf
      exact x_vret g rfl ho dX1_setOwner_29
/-! SlotChip$Board.mark(LSlotChip$Circuit;I)V -/
def f_X1_mark_L13b (K2 : St → Int32 → Option St) (i1 : Nat) (v2 : Int32) (v3 : Int32) (K13 : St → Int32 → Option St) (σ : St) (v4 : Int32) : Option St :=
  if v4 < (σ.1 1 0 1) then
    ((f_X2_hasStart σ i1 v4).bind fun r2 =>
    if r2 = 0 then
      K13 σ (v4 + 1)
    else
      ((f_X2_linkAt σ i1 v3).bind fun r3 =>
      (f_X1_slotOf σ v4 v3).bind fun r4 =>
      (f_X1_setOwner σ r3 r4 v2).bind fun σ6 =>
      K13 σ6 (v4 + 1)))
  else
    K2 σ (v3 + 1)
def f_X1_mark_L13 (K2 : St → Int32 → Option St) (i1 : Nat) (v2 : Int32) (v3 : Int32) : Nat → St → Int32 → Option St
  | 0 => fun _ _ => none
  | n + 1 => f_X1_mark_L13b K2 i1 v2 v3 (f_X1_mark_L13 K2 i1 v2 v3 n)
def f_X1_mark_L2b (i1 : Nat) (v2 : Int32) (K2 : St → Int32 → Option St) (σ : St) (v3 : Int32) : Option St :=
  (f_X2_places σ i1).bind fun r1 =>
  if v3 < r1 then
    f_X1_mark_L13 K2 i1 v2 v3 FU σ 0
  else
    some σ
def f_X1_mark_L2 (i1 : Nat) (v2 : Int32) : Nat → St → Int32 → Option St
  | 0 => fun _ _ => none
  | n + 1 => f_X1_mark_L2b i1 v2 (f_X1_mark_L2 i1 v2 n)
def f_X1_mark (σ : St) (p1 : Nat) (p2 : Int32) : Option St :=
  f_X1_mark_L2 p1 p2 FU σ 0
set_option maxHeartbeats 4000000 in
set_option maxRecDepth 100000 in
theorem l_X1_mark_L13 {E : EV} {l : Launch} {D : va_G} {cy : Nat → ClassId} {Ad : Nat → Nat} {out : St × Option Value} {o : St} (hA : AdOK 58 Ad) (xl : XL E l D (AdA 58 Ad)) (g : XG E (wX cy Ad) cy cX1_mark RX1 5 2 none out) {K2 : St → Int32 → Option St} (i1 : Nat) (v2 : Int32) (v3 : Int32) (ho : out = (o, none)) (ih2 : ∀ (σ : St) (v3 : Int32), K2 σ v3 = some o → XJ E (wX cy Ad σ) 2 [(0, .ref (Ad 6)), (1, .ref (Ad (14 + 3 * i1))), (2, .int v2), (3, .int v3)] []) (h_i1 : i1 < 8) : ∀ (n : Nat) (σ : St) (v4 : Int32), f_X1_mark_L13 K2 i1 v2 v3 n σ v4 = some o → XJ E (wX cy Ad σ) 13 [(0, .ref (Ad 6)), (1, .ref (Ad (14 + 3 * i1))), (2, .int v2), (3, .int v3), (4, .int v4)] [] := by
  intro n
  induction n with
  | zero => intro _ _ hf; cases hf
  | succ n ih13 =>
    intro σ v4 hf
    replace hf : f_X1_mark_L13b K2 i1 v2 v3 (f_X1_mark_L13 K2 i1 v2 v3 n) σ v4 = some o := hf
    unfold f_X1_mark_L13b at hf
    refine x_iload g 4 dX1_mark_13 rfl ?_
    refine x_aload_n g 0 dX1_mark_15 rfl rfl ?_
    refine x_get g fl_X1_45 wx_6 rfl dX1_mark_16 ?_
    refine x_icmp_ge g 54 dX1_mark_19 (by decide) hf (fun c19 hf => ?_) (fun c19 hf => ?_)
    · refine x_aload_n g 1 dX1_mark_22 rfl rfl ?_
      refine x_iload g 4 dX1_mark_23 rfl ?_
      obtain ⟨r2, hgr2, hf⟩ := obind hf
      refine x_callV (r := (RX2, TX2, 18)) g xl [.int v4] [] [.int r2] (c_X2_hasStart hA h_i1 hgr2) mf_X2_hasStart im_X2_hasStart se_X2_hasStart ml_X1_68 rfl (wx_C h_i1) (by decide) (by decide) rfl (Nat.le_of_ble_eq_true rfl) dX1_mark_25 rfl rfl ?_
      refine x_if_eq g 48 dX1_mark_28 (by decide) hf (fun c28 hf => ?_) (fun c28 hf => ?_)
      · refine x_iinc g 4 (v4 + 1) (lv' := [(4, .int (v4 + 1)), (0, .ref (Ad 6)), (1, .ref (Ad (14 + 3 * i1))), (2, .int v2), (3, .int v3)]) dX1_mark_48 rfl (by rfl) (by decide) rfl ?_
        refine x_goto g 13 dX1_mark_51 (by decide) ?_
        exact x_sub [1, 2, 3, 4, 0] rfl (ih13 _ _ hf)
      · refine x_aload_n g 0 dX1_mark_31 rfl rfl ?_
        refine x_aload_n g 1 dX1_mark_32 rfl rfl ?_
        refine x_iload_n g 3 dX1_mark_33 rfl rfl ?_
        obtain ⟨r3, hgr3, hf⟩ := obind hf
        refine x_callV (r := (RX2, TX2, 18)) g xl [.int v3] [.ref (Ad 6)] [.int r3, .ref (Ad 6)] (c_X2_linkAt hA h_i1 hgr3) mf_X2_linkAt im_X2_linkAt se_X2_linkAt ml_X1_71 rfl (wx_C h_i1) (by decide) (by decide) rfl (Nat.le_of_ble_eq_true rfl) dX1_mark_34 rfl rfl ?_
        refine x_aload_n g 0 dX1_mark_37 rfl rfl ?_
        refine x_iload g 4 dX1_mark_38 rfl ?_
        refine x_iload_n g 3 dX1_mark_40 rfl rfl ?_
        obtain ⟨r4, hgr4, hf⟩ := obind hf
        refine x_callV (r := (RX1, TX1, 6)) g xl [.int v4, .int v3] [.int r3, .ref (Ad 6)] [.int r4, .int r3, .ref (Ad 6)] (c_X1_slotOf hA hgr4) mf_X1_slotOf im_X1_slotOf se_X1_slotOf ml_X1_75 rfl wx_6 (by decide) (by decide) rfl (Nat.le_of_ble_eq_true rfl) dX1_mark_41 rfl rfl ?_
        refine x_iload_n g 2 dX1_mark_44 rfl rfl ?_
        obtain ⟨σ6, hgr5, hf⟩ := obind hf
        refine x_callV (r := (RX1, TX1, 6)) g xl [.int r3, .int r4, .int v2] [] [] (c_X1_setOwner hA hgr5) mf_X1_setOwner im_X1_setOwner se_X1_setOwner ml_X1_78 rfl wx_6 (by decide) (by decide) rfl (Nat.le_of_ble_eq_true rfl) dX1_mark_45 rfl rfl ?_
        refine x_iinc g 4 (v4 + 1) (lv' := [(4, .int (v4 + 1)), (0, .ref (Ad 6)), (1, .ref (Ad (14 + 3 * i1))), (2, .int v2), (3, .int v3)]) dX1_mark_48 rfl (by rfl) (by decide) rfl ?_
        refine x_goto g 13 dX1_mark_51 (by decide) ?_
        exact x_sub [1, 2, 3, 4, 0] rfl (ih13 _ _ hf)
    · refine x_iinc g 3 (v3 + 1) (lv' := [(3, .int (v3 + 1)), (0, .ref (Ad 6)), (1, .ref (Ad (14 + 3 * i1))), (2, .int v2), (4, .int v4)]) dX1_mark_54 rfl (by rfl) (by decide) rfl ?_
      refine x_goto g 2 dX1_mark_57 (by decide) ?_
      exact x_sub [1, 2, 3, 0] rfl (ih2 _ _ hf)
set_option maxHeartbeats 4000000 in
set_option maxRecDepth 100000 in
theorem l_X1_mark_L2 {E : EV} {l : Launch} {D : va_G} {cy : Nat → ClassId} {Ad : Nat → Nat} {out : St × Option Value} {o : St} (hA : AdOK 58 Ad) (xl : XL E l D (AdA 58 Ad)) (g : XG E (wX cy Ad) cy cX1_mark RX1 5 2 none out) (i1 : Nat) (v2 : Int32) (ho : out = (o, none)) (h_i1 : i1 < 8) : ∀ (n : Nat) (σ : St) (v3 : Int32), f_X1_mark_L2 i1 v2 n σ v3 = some o → XJ E (wX cy Ad σ) 2 [(0, .ref (Ad 6)), (1, .ref (Ad (14 + 3 * i1))), (2, .int v2), (3, .int v3)] [] := by
  intro n
  induction n with
  | zero => intro _ _ hf; cases hf
  | succ n ih2 =>
    intro σ v3 hf
    replace hf : f_X1_mark_L2b i1 v2 (f_X1_mark_L2 i1 v2 n) σ v3 = some o := hf
    unfold f_X1_mark_L2b at hf
    refine x_iload_n g 3 dX1_mark_2 rfl rfl ?_
    refine x_aload_n g 1 dX1_mark_3 rfl rfl ?_
    obtain ⟨r1, hgr1, hf⟩ := obind hf
    refine x_callV (r := (RX2, TX2, 18)) g xl [] [.int v3] [.int r1, .int v3] (c_X2_places hA h_i1 hgr1) mf_X2_places im_X2_places se_X2_places ml_X1_62 rfl (wx_C h_i1) (by decide) (by decide) rfl (Nat.le_of_ble_eq_true rfl) dX1_mark_4 rfl rfl ?_
    refine x_icmp_ge g 60 dX1_mark_7 (by decide) hf (fun c7 hf => ?_) (fun c7 hf => ?_)
    · refine x_iconst g 0 dX1_mark_10 (by decide) ?_
      refine x_istore (lv' := [(4, .int 0), (0, .ref (Ad 6)), (1, .ref (Ad (14 + 3 * i1))), (2, .int v2), (3, .int v3)]) g dX1_mark_11 (by decide) rfl ?_
      exact x_sub [1, 2, 3, 4, 0] rfl (l_X1_mark_L13 hA xl g _ _ _ ho ih2 h_i1 FU _ _ hf)
    · cases hf
      exact x_vret g rfl ho dX1_mark_60
set_option maxHeartbeats 4000000 in
set_option maxRecDepth 100000 in
theorem c_X1_mark {l : Launch} {D : va_G} {cy : Nat → ClassId} {Ad : Nat → Nat} (hA : AdOK 58 Ad) {σ : St} {p1 : Nat} {p2 : Int32} (h_p1 : p1 < 8) {o : St} (hf : f_X1_mark σ p1 p2 = some o) : CT l (wX cy Ad) D cy (AdA 58 Ad) yX1_mark cX1_mark 5 none 2 [.ref (Ad 6), .ref (Ad (14 + 3 * p1)), .int p2] σ (o, none) := by
  refine CT.of mf_X1_mark (wX_D hA) (Nat.le_of_ble_eq_true rfl) ?_
  intro E xl g
  have ho : ((o, none) : St × Option Value) = (o, none) := rfl
  unfold f_X1_mark at hf
  show XJ E (wX cy Ad σ) 0 [(0, .ref (Ad 6)), (1, .ref (Ad (14 + 3 * p1))), (2, .int p2)] []
  refine x_iconst g 0 dX1_mark_0 (by decide) ?_
  refine x_istore_n (lv' := [(3, .int 0), (0, .ref (Ad 6)), (1, .ref (Ad (14 + 3 * p1))), (2, .int p2)]) g dX1_mark_1 rfl (by decide) rfl ?_
  exact x_sub [1, 2, 3, 0] rfl (l_X1_mark_L2 hA xl g _ _ ho h_p1 FU _ _ hf)
/-! SlotChip$Search.giveTo(LSlotChip$Circuit;)V -/
def f_X6_giveTo (σ : St) (p1 : Nat) : Option St :=
  (f_X2_setRoute σ p1 (σ.1 6 0 6) (σ.1 6 0 7)).bind fun σ2 =>
  (f_X1_mark σ2 p1 (σ2.1 2 p1 0)).bind fun σ4 =>
  some σ4
set_option maxHeartbeats 4000000 in
set_option maxRecDepth 100000 in
theorem c_X6_giveTo {l : Launch} {D : va_G} {cy : Nat → ClassId} {Ad : Nat → Nat} (hA : AdOK 58 Ad) {σ : St} {p1 : Nat} (h_p1 : p1 < 8) {o : St} (hf : f_X6_giveTo σ p1 = some o) : CT l (wX cy Ad) D cy (AdA 58 Ad) yX6_giveTo cX6_giveTo 2 none 3 [.ref (Ad 38), .ref (Ad (14 + 3 * p1))] σ (o, none) := by
  refine CT.of mf_X6_giveTo (wX_D hA) (Nat.le_of_ble_eq_true rfl) ?_
  intro E xl g
  have ho : ((o, none) : St × Option Value) = (o, none) := rfl
  unfold f_X6_giveTo at hf
  show XJ E (wX cy Ad σ) 0 [(0, .ref (Ad 38)), (1, .ref (Ad (14 + 3 * p1)))] []
  refine x_aload_n g 1 dX6_giveTo_0 rfl rfl ?_
  refine x_aload_n g 0 dX6_giveTo_1 rfl rfl ?_
  refine x_get g fl_X6_9 wx_38 rfl dX6_giveTo_2 ?_
  refine x_aload_n g 0 dX6_giveTo_5 rfl rfl ?_
  refine x_get g fl_X6_40 wx_38 rfl dX6_giveTo_6 ?_
  refine x_aload_n g 0 dX6_giveTo_9 rfl rfl ?_
  refine x_get g fl_X6_33 wx_38 rfl dX6_giveTo_10 ?_
  obtain ⟨σ2, hgr1, hf⟩ := obind hf
  refine x_callV (r := (RX2, TX2, 18)) g xl [.ref (Ad 39), .int (σ.1 6 0 6), .int (σ.1 6 0 7)] [] [] (c_X2_setRoute hA h_p1 hgr1) mf_X2_setRoute im_X2_setRoute se_X2_setRoute ml_X6_56 rfl (wx_C h_p1) (by decide) (by decide) rfl (Nat.le_of_ble_eq_true rfl) dX6_giveTo_13 rfl rfl ?_
  refine x_aload_n g 0 dX6_giveTo_16 rfl rfl ?_
  refine x_get g fl_X6_19 wx_38 rfl dX6_giveTo_17 ?_
  refine x_aload_n g 1 dX6_giveTo_20 rfl rfl ?_
  refine x_aload_n g 1 dX6_giveTo_21 rfl rfl ?_
  refine x_get g fl_X6_62 (wx_C h_p1) rfl dX6_giveTo_22 ?_
  obtain ⟨σ4, hgr3, hf⟩ := obind hf
  refine x_callV (r := (RX1, TX1, 6)) g xl [.ref (Ad (14 + 3 * p1)), .int (σ2.1 2 p1 0)] [] [] (c_X1_mark hA h_p1 hgr3) mf_X1_mark im_X1_mark se_X1_mark ml_X6_65 rfl wx_6 (by decide) (by decide) rfl (Nat.le_of_ble_eq_true rfl) dX6_giveTo_25 rfl rfl ?_
  cases hf
  exact x_vret g rfl ho dX6_giveTo_28
/-! SlotChip.open(IIIII)I -/
def f_X11_open (σ : St) (p1 : Int32) (p2 : Int32) (p3 : Int32) (p4 : Int32) (p5 : Int32) : Option (St × Int32) :=
  (f_X1_isThere σ).bind fun r1 =>
  if r1 = 0 then
    some (σ, (-103))
  else
    ((f_X4_hasRouter σ 1 p2).bind fun r2 =>
    if r2 = 0 then
      some (σ, (-101))
    else
      ((f_X4_hasRouter σ 1 p3).bind fun r3 =>
      if r3 = 0 then
        some (σ, (-101))
      else
        (if p2 = p3 then
          some (σ, (-101))
        else
          ((f_X11_isKind p1).bind fun r4 =>
          if r4 = 0 then
            some (σ, (-102))
          else
            (if 1 ≤ p4 then
              (if p4 ≤ 4 then
                (if 1 ≤ p5 then
                  (if 15 < p5 then
                    some (σ, (-102))
                  else
                    ((f_X3_firstUnused σ).bind fun r5 =>
                    onR 8 r5
                      (some (σ, (-104)))
                      (fun j6 =>
                        (f_X6_find σ p1 p2 p3 p4).bind fun (σ8, r7) =>
                        if r7 = 0 then
                          some (σ8, (-103))
                        else
                          ((f_X2_set σ8 j6 p1 p2 p3 p4 p5 (σ8.1 1 0 2)).bind fun σ10 =>
                          (f_X6_giveTo σ10 j6).bind fun σ12 =>
                          some (σ12, (σ12.1 2 j6 0))))))
                else
                  some (σ, (-102)))
              else
                some (σ, (-102)))
            else
              some (σ, (-102)))))))
set_option maxHeartbeats 4000000 in
set_option maxRecDepth 100000 in
theorem c_X11_open {l : Launch} {D : va_G} {cy : Nat → ClassId} {Ad : Nat → Nat} (hA : AdOK 58 Ad) {σ : St} {p1 : Int32} {p2 : Int32} {p3 : Int32} {p4 : Int32} {p5 : Int32} {o : (St × Int32)} (hf : f_X11_open σ p1 p2 p3 p4 p5 = some o) : CT l (wX cy Ad) D cy (AdA 58 Ad) yX11_open cX11_open 7 (some .int) 23 [.ref (Ad 0), .int p1, .int p2, .int p3, .int p4, .int p5] σ (o.1, (some (.int o.2))) := by
  refine CT.of mf_X11_open (wX_D hA) (Nat.le_of_ble_eq_true rfl) ?_
  intro E xl g
  have ho : ((o.1, (some (.int o.2))) : St × Option Value) = (o.1, (some (.int o.2))) := rfl
  unfold f_X11_open at hf
  show XJ E (wX cy Ad σ) 0 [(0, .ref (Ad 0)), (1, .int p1), (2, .int p2), (3, .int p3), (4, .int p4), (5, .int p5)] []
  refine x_aload_n g 0 dX11_open_0 rfl rfl ?_
  refine x_get g fl_X11_19 wx_0 rfl dX11_open_1 ?_
  obtain ⟨r1, hgr1, hf⟩ := obind hf
  refine x_callV (r := (RX1, TX1, 6)) g xl [] [] [.int r1] (c_X1_isThere hA hgr1) mf_X1_isThere im_X1_isThere se_X1_isThere ml_X11_91 rfl wx_6 (by decide) (by decide) rfl (Nat.le_of_ble_eq_true rfl) dX11_open_4 rfl rfl ?_
  refine x_if_ne g 13 dX11_open_7 (by decide) hf (fun c7 hf => ?_) (fun c7 hf => ?_)
  · refine x_bipush g (-103) dX11_open_10 (by decide) ?_
    cases hf
    exact x_iret g rfl ho dX11_open_12
  · refine x_aload_n g 0 dX11_open_13 rfl rfl ?_
    refine x_get g fl_X11_19 wx_0 rfl dX11_open_14 ?_
    refine x_get g fl_X11_82 wx_6 rfl dX11_open_17 ?_
    refine x_iload_n g 2 dX11_open_20 rfl rfl ?_
    obtain ⟨r2, hgr2, hf⟩ := obind hf
    refine x_callV (r := (RX4, TX4, 3)) g xl [.int p2] [] [.int r2] (c_X4_hasRouter hA (by decide) hgr2) mf_X4_hasRouter im_X4_hasRouter se_X4_hasRouter ml_X11_128 rfl wx_7 (by decide) (by decide) rfl (Nat.le_of_ble_eq_true rfl) dX11_open_21 rfl rfl ?_
    refine x_if_eq g 46 dX11_open_24 (by decide) hf (fun c24 hf => ?_) (fun c24 hf => ?_)
    · refine x_bipush g (-101) dX11_open_46 (by decide) ?_
      cases hf
      exact x_iret g rfl ho dX11_open_48
    · refine x_aload_n g 0 dX11_open_27 rfl rfl ?_
      refine x_get g fl_X11_19 wx_0 rfl dX11_open_28 ?_
      refine x_get g fl_X11_82 wx_6 rfl dX11_open_31 ?_
      refine x_iload_n g 3 dX11_open_34 rfl rfl ?_
      obtain ⟨r3, hgr3, hf⟩ := obind hf
      refine x_callV (r := (RX4, TX4, 3)) g xl [.int p3] [] [.int r3] (c_X4_hasRouter hA (by decide) hgr3) mf_X4_hasRouter im_X4_hasRouter se_X4_hasRouter ml_X11_128 rfl wx_7 (by decide) (by decide) rfl (Nat.le_of_ble_eq_true rfl) dX11_open_35 rfl rfl ?_
      refine x_if_eq g 46 dX11_open_38 (by decide) hf (fun c38 hf => ?_) (fun c38 hf => ?_)
      · refine x_bipush g (-101) dX11_open_46 (by decide) ?_
        cases hf
        exact x_iret g rfl ho dX11_open_48
      · refine x_iload_n g 2 dX11_open_41 rfl rfl ?_
        refine x_iload_n g 3 dX11_open_42 rfl rfl ?_
        refine x_icmp_ne g 49 dX11_open_43 (by decide) hf (fun c43 hf => ?_) (fun c43 hf => ?_)
        · refine x_bipush g (-101) dX11_open_46 (by decide) ?_
          cases hf
          exact x_iret g rfl ho dX11_open_48
        · refine x_iload_n g 1 dX11_open_49 rfl rfl ?_
          obtain ⟨r4, hgr4, hf⟩ := obind hf
          refine x_callS g xl [.int p1] [] [.int r4] (c_X11_isKind hA hgr4) mf_X11_isKind sm_X11_isKind ml_X11_131 (by decide) (by decide) rfl (Nat.le_of_ble_eq_true rfl) dX11_open_50 rfl rfl ?_
          refine x_if_eq g 81 dX11_open_53 (by decide) hf (fun c53 hf => ?_) (fun c53 hf => ?_)
          · refine x_bipush g (-102) dX11_open_81 (by decide) ?_
            cases hf
            exact x_iret g rfl ho dX11_open_83
          · refine x_iload g 4 dX11_open_56 rfl ?_
            refine x_iconst g 1 dX11_open_58 (by decide) ?_
            refine x_icmp_lt g 81 dX11_open_59 (by decide) hf (fun c59 hf => ?_) (fun c59 hf => ?_)
            · refine x_iload g 4 dX11_open_62 rfl ?_
              refine x_iconst g 4 dX11_open_64 (by decide) ?_
              refine x_icmp_gt g 81 dX11_open_65 (by decide) hf (fun c65 hf => ?_) (fun c65 hf => ?_)
              · refine x_iload g 5 dX11_open_68 rfl ?_
                refine x_iconst g 1 dX11_open_70 (by decide) ?_
                refine x_icmp_lt g 81 dX11_open_71 (by decide) hf (fun c71 hf => ?_) (fun c71 hf => ?_)
                · refine x_iload g 5 dX11_open_74 rfl ?_
                  refine x_bipush g 15 dX11_open_76 (by decide) ?_
                  refine x_icmp_le g 84 dX11_open_78 (by decide) hf (fun c78 hf => ?_) (fun c78 hf => ?_)
                  · refine x_bipush g (-102) dX11_open_81 (by decide) ?_
                    cases hf
                    exact x_iret g rfl ho dX11_open_83
                  · refine x_aload_n g 0 dX11_open_84 rfl rfl ?_
                    refine x_get g fl_X11_26 wx_0 rfl dX11_open_85 ?_
                    obtain ⟨r5, hgr5, hf⟩ := obind hf
                    refine onR_sp hf (fun e hf => ?_) (fun j6 h_j6 e hf => ?_)
                    · rw [e] at hgr5
                      refine x_callV (r := (RX3, TX3, 1)) g xl [] [] [.null] (c_X3_firstUnused hA hgr5) mf_X3_firstUnused im_X3_firstUnused se_X3_firstUnused ml_X11_134 rfl wx_12 (by decide) (by decide) rfl (Nat.le_of_ble_eq_true rfl) dX11_open_88 rfl rfl ?_
                      refine x_astoreN (lv' := [(6, .null), (0, .ref (Ad 0)), (1, .int p1), (2, .int p2), (3, .int p3), (4, .int p4), (5, .int p5)]) g dX11_open_91 (by decide) rfl ?_
                      refine x_aloadN g 0 dX11_open_93 rfl ?_
                      refine x_ifnonnullN g dX11_open_95 ?_
                      refine x_bipush g (-104) dX11_open_98 (by decide) ?_
                      cases hf
                      exact x_iret g rfl ho dX11_open_100
                    · rw [e] at hgr5
                      refine x_callV (r := (RX3, TX3, 1)) g xl [] [] [.ref (Ad (14 + 3 * j6))] (c_X3_firstUnused hA hgr5) mf_X3_firstUnused im_X3_firstUnused se_X3_firstUnused ml_X11_134 rfl wx_12 (by decide) (by decide) rfl (Nat.le_of_ble_eq_true rfl) dX11_open_88 rfl rfl ?_
                      refine x_astore (lv' := [(6, .ref (Ad (14 + 3 * j6))), (0, .ref (Ad 0)), (1, .int p1), (2, .int p2), (3, .int p3), (4, .int p4), (5, .int p5)]) g dX11_open_91 (by decide) rfl ?_
                      refine x_aload g 0 dX11_open_93 rfl ?_
                      refine x_ifnonnull g 101 dX11_open_95 (by decide) ?_
                      refine x_aload_n g 1 dX11_open_101 rfl rfl ?_
                      refine x_get g fl_X11_35 wx_0 rfl dX11_open_102 ?_
                      refine x_iload_n g 2 dX11_open_105 rfl rfl ?_
                      refine x_iload_n g 3 dX11_open_106 rfl rfl ?_
                      refine x_iload_n g 4 dX11_open_107 rfl rfl ?_
                      refine x_iload g 5 dX11_open_108 rfl ?_
                      obtain ⟨⟨σ8, r7⟩, hgr7, hf⟩ := obind hf
                      refine x_callV (r := (RX6, TX6, 9)) g xl [.int p1, .int p2, .int p3, .int p4] [] [.int r7] (c_X6_find hA hgr7) mf_X6_find im_X6_find se_X6_find ml_X11_138 rfl wx_38 (by decide) (by decide) rfl (Nat.le_of_ble_eq_true rfl) dX11_open_110 rfl rfl ?_
                      refine x_if_ne g 119 dX11_open_113 (by decide) hf (fun c113 hf => ?_) (fun c113 hf => ?_)
                      · refine x_bipush g (-103) dX11_open_116 (by decide) ?_
                        cases hf
                        exact x_iret g rfl ho dX11_open_118
                      · refine x_aload g 0 dX11_open_119 rfl ?_
                        refine x_iload_n g 2 dX11_open_121 rfl rfl ?_
                        refine x_iload_n g 3 dX11_open_122 rfl rfl ?_
                        refine x_iload_n g 4 dX11_open_123 rfl rfl ?_
                        refine x_iload g 5 dX11_open_124 rfl ?_
                        refine x_iload g 6 dX11_open_126 rfl ?_
                        refine x_aload_n g 1 dX11_open_128 rfl rfl ?_
                        refine x_get g fl_X11_19 wx_0 rfl dX11_open_129 ?_
                        refine x_get g fl_X11_142 wx_6 rfl dX11_open_132 ?_
                        obtain ⟨σ10, hgr9, hf⟩ := obind hf
                        refine x_callV (r := (RX2, TX2, 18)) g xl [.int p1, .int p2, .int p3, .int p4, .int p5, .int (σ8.1 1 0 2)] [] [] (c_X2_set hA h_j6 hgr9) mf_X2_set im_X2_set se_X2_set ml_X11_145 rfl (wx_C h_j6) (by decide) (by decide) rfl (Nat.le_of_ble_eq_true rfl) dX11_open_135 rfl rfl ?_
                        refine x_aload_n g 1 dX11_open_138 rfl rfl ?_
                        refine x_get g fl_X11_35 wx_0 rfl dX11_open_139 ?_
                        refine x_aload g 0 dX11_open_142 rfl ?_
                        obtain ⟨σ12, hgr11, hf⟩ := obind hf
                        refine x_callV (r := (RX6, TX6, 9)) g xl [.ref (Ad (14 + 3 * j6))] [] [] (c_X6_giveTo hA h_j6 hgr11) mf_X6_giveTo im_X6_giveTo se_X6_giveTo ml_X11_150 rfl wx_38 (by decide) (by decide) rfl (Nat.le_of_ble_eq_true rfl) dX11_open_144 rfl rfl ?_
                        refine x_aload g 0 dX11_open_147 rfl ?_
                        refine x_get g fl_X11_154 (wx_C h_j6) rfl dX11_open_149 ?_
                        cases hf
                        exact x_iret g rfl ho dX11_open_152
                · refine x_bipush g (-102) dX11_open_81 (by decide) ?_
                  cases hf
                  exact x_iret g rfl ho dX11_open_83
              · refine x_bipush g (-102) dX11_open_81 (by decide) ?_
                cases hf
                exact x_iret g rfl ho dX11_open_83
            · refine x_bipush g (-102) dX11_open_81 (by decide) ?_
              cases hf
              exact x_iret g rfl ho dX11_open_83
/-! SlotChip$Circuits.find(I)LSlotChip$Circuit; -/
def f_X3_find (σ : St) (p1 : Int32) : Option (Option Nat) :=
  if 0 ≤ p1 then
    (if 8 ≤ p1 then
      some none
    else
      (chk (inb p1 8) (
        if (σ.1 2 (Int32.toNatClampNeg p1) 1) = 0 then
          some none
        else
          (chk (inb p1 8) (
            some (some (Int32.toNatClampNeg p1)))))))
  else
    some none
set_option maxHeartbeats 4000000 in
set_option maxRecDepth 100000 in
theorem c_X3_find {l : Launch} {D : va_G} {cy : Nat → ClassId} {Ad : Nat → Nat} (hA : AdOK 58 Ad) {σ : St} {p1 : Int32} {o : (Option Nat)} (hf : f_X3_find σ p1 = some o) : CT l (wX cy Ad) D cy (AdA 58 Ad) yX3_find cX3_find 2 (some (.object "SlotChip$Circuit")) 0 [.ref (Ad 12), .int p1] σ (σ, (some (vC Ad o))) := by
  refine CT.of mf_X3_find (wX_D hA) (Nat.le_of_ble_eq_true rfl) ?_
  intro E xl g
  have ho : ((σ, (some (vC Ad o))) : St × Option Value) = (σ, (some (vC Ad o))) := rfl
  unfold f_X3_find at hf
  show XJ E (wX cy Ad σ) 0 [(0, .ref (Ad 12)), (1, .int p1)] []
  refine x_iload_n g 1 dX3_find_0 rfl rfl ?_
  refine x_if_lt g 10 dX3_find_1 (by decide) hf (fun c1 hf => ?_) (fun c1 hf => ?_)
  · refine x_iload_n g 1 dX3_find_4 rfl rfl ?_
    refine x_bipush g 8 dX3_find_5 (by decide) ?_
    refine x_icmp_lt g 12 dX3_find_7 (by decide) hf (fun c7 hf => ?_) (fun c7 hf => ?_)
    · refine x_null g dX3_find_10 ?_
      cases hf
      exact x_aret g rfl (Or.inl rfl) ho dX3_find_11
    · refine x_aload_n g 0 dX3_find_12 rfl rfl ?_
      refine x_get g fl_X3_11 wx_12 rfl dX3_find_13 ?_
      refine x_iload_n g 1 dX3_find_16 rfl rfl ?_
      have hi1 := inb_lt (chk_some hf).1
      refine x_aald (b := Ad (14 + 3 * (Int32.toNatClampNeg p1))) g (t0 := 2) rfl wx_13 rfl dX3_find_17 hf (fun hf => ?_)
      refine x_get g fl_X3_20 (wx_C hi1) rfl dX3_find_18 ?_
      refine x_if_eq g 33 dX3_find_21 (by decide) hf (fun c21 hf => ?_) (fun c21 hf => ?_)
      · refine x_null g dX3_find_33 ?_
        cases hf
        exact x_aret g rfl (Or.inl rfl) ho dX3_find_34
      · refine x_aload_n g 0 dX3_find_24 rfl rfl ?_
        refine x_get g fl_X3_11 wx_12 rfl dX3_find_25 ?_
        refine x_iload_n g 1 dX3_find_28 rfl rfl ?_
        have hi2 := inb_lt (chk_some hf).1
        refine x_aald (b := Ad (14 + 3 * (Int32.toNatClampNeg p1))) g (t0 := 2) rfl wx_13 rfl dX3_find_29 hf (fun hf => ?_)
        refine x_goto g 34 dX3_find_30 (by decide) ?_
        cases hf
        exact x_aret g rfl (Or.inr ⟨_, rfl⟩) ho dX3_find_34
  · refine x_null g dX3_find_10 ?_
    cases hf
    exact x_aret g rfl (Or.inl rfl) ho dX3_find_11
/-! SlotChip$Circuit.isOf(I)Z -/
def f_X2_isOf (σ : St) (i : Nat) (p1 : Int32) : Option Int32 :=
  if p1 = 0 then
    some 1
  else
    (if p1 = (σ.1 2 i 2) then
      some 1
    else
      (if p1 = 1 then
        (if (σ.1 2 i 2) = 2 then
          some 1
        else
          some 0)
      else
        some 0))
set_option maxHeartbeats 4000000 in
set_option maxRecDepth 100000 in
theorem c_X2_isOf {l : Launch} {D : va_G} {cy : Nat → ClassId} {Ad : Nat → Nat} (hA : AdOK 58 Ad) {σ : St} {i : Nat} {p1 : Int32} (h_i : i < 8) {o : Int32} (hf : f_X2_isOf σ i p1 = some o) : CT l (wX cy Ad) D cy (AdA 58 Ad) yX2_isOf cX2_isOf 2 (some .boolean) 0 [.ref (Ad (14 + 3 * i)), .int p1] σ (σ, (some (.int o))) := by
  refine CT.of mf_X2_isOf (wX_D hA) (Nat.le_of_ble_eq_true rfl) ?_
  intro E xl g
  have ho : ((σ, (some (.int o))) : St × Option Value) = (σ, (some (.int o))) := rfl
  unfold f_X2_isOf at hf
  show XJ E (wX cy Ad σ) 0 [(0, .ref (Ad (14 + 3 * i))), (1, .int p1)] []
  refine x_iload_n g 1 dX2_isOf_0 rfl rfl ?_
  refine x_if_eq g 25 dX2_isOf_1 (by decide) hf (fun c1 hf => ?_) (fun c1 hf => ?_)
  · refine x_iconst g 1 dX2_isOf_25 (by decide) ?_
    refine x_goto g 30 dX2_isOf_26 (by decide) ?_
    cases hf
    exact x_zret g rfl (by decide) ho dX2_isOf_30
  · refine x_iload_n g 1 dX2_isOf_4 rfl rfl ?_
    refine x_aload_n g 0 dX2_isOf_5 rfl rfl ?_
    refine x_get g fl_X2_26 (wx_C h_i) rfl dX2_isOf_6 ?_
    refine x_icmp_eq g 25 dX2_isOf_9 (by decide) hf (fun c9 hf => ?_) (fun c9 hf => ?_)
    · refine x_iconst g 1 dX2_isOf_25 (by decide) ?_
      refine x_goto g 30 dX2_isOf_26 (by decide) ?_
      cases hf
      exact x_zret g rfl (by decide) ho dX2_isOf_30
    · refine x_iload_n g 1 dX2_isOf_12 rfl rfl ?_
      refine x_iconst g 1 dX2_isOf_13 (by decide) ?_
      refine x_icmp_ne g 29 dX2_isOf_14 (by decide) hf (fun c14 hf => ?_) (fun c14 hf => ?_)
      · refine x_aload_n g 0 dX2_isOf_17 rfl rfl ?_
        refine x_get g fl_X2_26 (wx_C h_i) rfl dX2_isOf_18 ?_
        refine x_iconst g 2 dX2_isOf_21 (by decide) ?_
        refine x_icmp_ne g 29 dX2_isOf_22 (by decide) hf (fun c22 hf => ?_) (fun c22 hf => ?_)
        · refine x_iconst g 1 dX2_isOf_25 (by decide) ?_
          refine x_goto g 30 dX2_isOf_26 (by decide) ?_
          cases hf
          exact x_zret g rfl (by decide) ho dX2_isOf_30
        · refine x_iconst g 0 dX2_isOf_29 (by decide) ?_
          cases hf
          exact x_zret g rfl (by decide) ho dX2_isOf_30
      · refine x_iconst g 0 dX2_isOf_29 (by decide) ?_
        cases hf
        exact x_zret g rfl (by decide) ho dX2_isOf_30
/-! SlotChip.as(II)I -/
def f_X11_as (σ : St) (p1 : Int32) (p2 : Int32) : Option Int32 :=
  (f_X3_find σ p1).bind fun r1 =>
  onR 8 r1
    (some (-101))
    (fun j2 =>
      (f_X11_isKind p2).bind fun r3 =>
      if r3 = 0 then
        some (-102)
      else
        ((f_X2_isOf σ j2 p2).bind fun r4 =>
        if r4 = 0 then
          some (-1)
        else
          some (σ.1 2 j2 0)))
set_option maxHeartbeats 4000000 in
set_option maxRecDepth 100000 in
theorem c_X11_as {l : Launch} {D : va_G} {cy : Nat → ClassId} {Ad : Nat → Nat} (hA : AdOK 58 Ad) {σ : St} {p1 : Int32} {p2 : Int32} {o : Int32} (hf : f_X11_as σ p1 p2 = some o) : CT l (wX cy Ad) D cy (AdA 58 Ad) yX11_as cX11_as 4 (some .int) 1 [.ref (Ad 0), .int p1, .int p2] σ (σ, (some (.int o))) := by
  refine CT.of mf_X11_as (wX_D hA) (Nat.le_of_ble_eq_true rfl) ?_
  intro E xl g
  have ho : ((σ, (some (.int o))) : St × Option Value) = (σ, (some (.int o))) := rfl
  unfold f_X11_as at hf
  show XJ E (wX cy Ad σ) 0 [(0, .ref (Ad 0)), (1, .int p1), (2, .int p2)] []
  refine x_aload_n g 0 dX11_as_0 rfl rfl ?_
  refine x_get g fl_X11_26 wx_0 rfl dX11_as_1 ?_
  refine x_iload_n g 1 dX11_as_4 rfl rfl ?_
  obtain ⟨r1, hgr1, hf⟩ := obind hf
  refine onR_sp hf (fun e hf => ?_) (fun j2 h_j2 e hf => ?_)
  · rw [e] at hgr1
    refine x_callV (r := (RX3, TX3, 1)) g xl [.int p1] [] [.null] (c_X3_find hA hgr1) mf_X3_find im_X3_find se_X3_find ml_X11_157 rfl wx_12 (by decide) (by decide) rfl (Nat.le_of_ble_eq_true rfl) dX11_as_5 rfl rfl ?_
    refine x_astore_nN (lv' := [(3, .null), (0, .ref (Ad 0)), (1, .int p1), (2, .int p2)]) g dX11_as_8 rfl (by decide) rfl ?_
    refine x_aload_nN g 0 dX11_as_9 rfl rfl ?_
    refine x_ifnonnullN g dX11_as_10 ?_
    refine x_bipush g (-101) dX11_as_13 (by decide) ?_
    cases hf
    exact x_iret g rfl ho dX11_as_15
  · rw [e] at hgr1
    refine x_callV (r := (RX3, TX3, 1)) g xl [.int p1] [] [.ref (Ad (14 + 3 * j2))] (c_X3_find hA hgr1) mf_X3_find im_X3_find se_X3_find ml_X11_157 rfl wx_12 (by decide) (by decide) rfl (Nat.le_of_ble_eq_true rfl) dX11_as_5 rfl rfl ?_
    refine x_astore_n (lv' := [(3, .ref (Ad (14 + 3 * j2))), (0, .ref (Ad 0)), (1, .int p1), (2, .int p2)]) g dX11_as_8 rfl (by decide) rfl ?_
    refine x_aload_n g 0 dX11_as_9 rfl rfl ?_
    refine x_ifnonnull g 16 dX11_as_10 (by decide) ?_
    refine x_iload_n g 3 dX11_as_16 rfl rfl ?_
    obtain ⟨r3, hgr3, hf⟩ := obind hf
    refine x_callS g xl [.int p2] [] [.int r3] (c_X11_isKind hA hgr3) mf_X11_isKind sm_X11_isKind ml_X11_131 (by decide) (by decide) rfl (Nat.le_of_ble_eq_true rfl) dX11_as_17 rfl rfl ?_
    refine x_if_ne g 26 dX11_as_20 (by decide) hf (fun c20 hf => ?_) (fun c20 hf => ?_)
    · refine x_bipush g (-102) dX11_as_23 (by decide) ?_
      cases hf
      exact x_iret g rfl ho dX11_as_25
    · refine x_aload_n g 0 dX11_as_26 rfl rfl ?_
      refine x_iload_n g 3 dX11_as_27 rfl rfl ?_
      obtain ⟨r4, hgr4, hf⟩ := obind hf
      refine x_callV (r := (RX2, TX2, 18)) g xl [.int p2] [] [.int r4] (c_X2_isOf hA h_j2 hgr4) mf_X2_isOf im_X2_isOf se_X2_isOf ml_X11_160 rfl (wx_C h_j2) (by decide) (by decide) rfl (Nat.le_of_ble_eq_true rfl) dX11_as_28 rfl rfl ?_
      refine x_if_eq g 41 dX11_as_31 (by decide) hf (fun c31 hf => ?_) (fun c31 hf => ?_)
      · refine x_iconst g (-1) dX11_as_41 (by decide) ?_
        cases hf
        exact x_iret g rfl ho dX11_as_42
      · refine x_aload_n g 0 dX11_as_34 rfl rfl ?_
        refine x_get g fl_X11_154 (wx_C h_j2) rfl dX11_as_35 ?_
        refine x_goto g 42 dX11_as_38 (by decide) ?_
        cases hf
        exact x_iret g rfl ho dX11_as_42
/-! SlotChip$Circuit.tellMade(II)I -/
def f_X2_tellMade (σ : St) (i : Nat) (p1 : Int32) (p2 : Int32) : Option Int32 :=
  if p1 = 0 then
    some (σ.1 2 i 2)
  else
    (if p1 = 1 then
      some (σ.1 2 i 3)
    else
      (if p1 = 2 then
        some (σ.1 2 i 4)
      else
        (if p1 = 3 then
          some (σ.1 2 i 5)
        else
          (if p1 = 4 then
            some (σ.1 2 i 13)
          else
            (if p1 = 5 then
              some (σ.1 2 i 6)
            else
              (if p1 = 6 then
                ((f_X7_gapOf (σ.1 2 i 15) p2).bind fun r1 =>
                some r1)
              else
                some (σ.1 2 i 7)))))))
set_option maxHeartbeats 4000000 in
set_option maxRecDepth 100000 in
theorem c_X2_tellMade {l : Launch} {D : va_G} {cy : Nat → ClassId} {Ad : Nat → Nat} (hA : AdOK 58 Ad) {σ : St} {i : Nat} {p1 : Int32} {p2 : Int32} (h_i : i < 8) {o : Int32} (hf : f_X2_tellMade σ i p1 p2 = some o) : CT l (wX cy Ad) D cy (AdA 58 Ad) yX2_tellMade cX2_tellMade 3 (some .int) 2 [.ref (Ad (14 + 3 * i)), .int p1, .int p2] σ (σ, (some (.int o))) := by
  refine CT.of mf_X2_tellMade (wX_D hA) (Nat.le_of_ble_eq_true rfl) ?_
  intro E xl g
  have ho : ((σ, (some (.int o))) : St × Option Value) = (σ, (some (.int o))) := rfl
  unfold f_X2_tellMade at hf
  show XJ E (wX cy Ad σ) 0 [(0, .ref (Ad (14 + 3 * i))), (1, .int p1), (2, .int p2)] []
  refine x_iload_n g 1 dX2_tellMade_0 rfl rfl ?_
  refine sp hf (fun n_1_0 hf => ?_) (fun n_1_0 hf => ?_)
  · refine x_tin g 0 43 44 dX2_tellMade_1 n_1_0 (by decide) ?_
    refine x_aload_n g 0 dX2_tellMade_44 rfl rfl ?_
    refine x_get g fl_X2_26 (wx_C h_i) rfl dX2_tellMade_45 ?_
    cases hf
    exact x_iret g rfl ho dX2_tellMade_48
  · refine sp hf (fun n_1_1 hf => ?_) (fun n_1_1 hf => ?_)
    · refine x_tin g 1 48 49 dX2_tellMade_1 n_1_1 (by decide) ?_
      refine x_aload_n g 0 dX2_tellMade_49 rfl rfl ?_
      refine x_get g fl_X2_29 (wx_C h_i) rfl dX2_tellMade_50 ?_
      cases hf
      exact x_iret g rfl ho dX2_tellMade_53
    · refine sp hf (fun n_1_2 hf => ?_) (fun n_1_2 hf => ?_)
      · refine x_tin g 2 53 54 dX2_tellMade_1 n_1_2 (by decide) ?_
        refine x_aload_n g 0 dX2_tellMade_54 rfl rfl ?_
        refine x_get g fl_X2_32 (wx_C h_i) rfl dX2_tellMade_55 ?_
        cases hf
        exact x_iret g rfl ho dX2_tellMade_58
      · refine sp hf (fun n_1_3 hf => ?_) (fun n_1_3 hf => ?_)
        · refine x_tin g 3 58 59 dX2_tellMade_1 n_1_3 (by decide) ?_
          refine x_aload_n g 0 dX2_tellMade_59 rfl rfl ?_
          refine x_get g fl_X2_35 (wx_C h_i) rfl dX2_tellMade_60 ?_
          cases hf
          exact x_iret g rfl ho dX2_tellMade_63
        · refine sp hf (fun n_1_4 hf => ?_) (fun n_1_4 hf => ?_)
          · refine x_tin g 4 63 64 dX2_tellMade_1 n_1_4 (by decide) ?_
            refine x_aload_n g 0 dX2_tellMade_64 rfl rfl ?_
            refine x_get g fl_X2_38 (wx_C h_i) rfl dX2_tellMade_65 ?_
            cases hf
            exact x_iret g rfl ho dX2_tellMade_68
          · refine sp hf (fun n_1_5 hf => ?_) (fun n_1_5 hf => ?_)
            · refine x_tin g 5 68 69 dX2_tellMade_1 n_1_5 (by decide) ?_
              refine x_aload_n g 0 dX2_tellMade_69 rfl rfl ?_
              refine x_get g fl_X2_71 (wx_C h_i) rfl dX2_tellMade_70 ?_
              cases hf
              exact x_iret g rfl ho dX2_tellMade_73
            · refine sp hf (fun n_1_6 hf => ?_) (fun n_1_6 hf => ?_)
              · refine x_tin g 6 73 74 dX2_tellMade_1 n_1_6 (by decide) ?_
                refine x_aload_n g 0 dX2_tellMade_74 rfl rfl ?_
                refine x_get g fl_X2_74 (wx_C h_i) rfl dX2_tellMade_75 ?_
                refine x_iload_n g 2 dX2_tellMade_78 rfl rfl ?_
                obtain ⟨r1, hgr1, hf⟩ := obind hf
                refine x_callS g xl [.int (σ.1 2 i 15), .int p2] [] [.int r1] (c_X7_gapOf hA hgr1) mf_X7_gapOf sm_X7_gapOf ml_X2_111 (by decide) (by decide) rfl (Nat.le_of_ble_eq_true rfl) dX2_tellMade_79 rfl rfl ?_
                cases hf
                exact x_iret g rfl ho dX2_tellMade_82
              · refine x_tout g 83 dX2_tellMade_1 (by have e0 := tI n_1_0 (by decide : (0 : Int32).toInt = 0); have e1 := tI n_1_1 (by decide : (1 : Int32).toInt = 1); have e2 := tI n_1_2 (by decide : (2 : Int32).toInt = 2); have e3 := tI n_1_3 (by decide : (3 : Int32).toInt = 3); have e4 := tI n_1_4 (by decide : (4 : Int32).toInt = 4); have e5 := tI n_1_5 (by decide : (5 : Int32).toInt = 5); have e6 := tI n_1_6 (by decide : (6 : Int32).toInt = 6); omega) (by decide) ?_
                refine x_aload_n g 0 dX2_tellMade_83 rfl rfl ?_
                refine x_get g fl_X2_44 (wx_C h_i) rfl dX2_tellMade_84 ?_
                cases hf
                exact x_iret g rfl ho dX2_tellMade_87
/-! SlotChip$Circuit.lettersUnderWay()I -/
def f_X2_lettersUnderWay_L4b (σ : St) (i0 : Nat) (K4 : Int32 → Int32 → Option Int32) (v1 : Int32) (v2 : Int32) : Option Int32 :=
  if v2 < 8 then
    (chk (inb v2 8) (
      if (σ.1 18 i0 (Int32.toNatClampNeg v2)) = (-1) then
        K4 v1 (v2 + 1)
      else
        K4 (v1 + 1) (v2 + 1)))
  else
    some v1
def f_X2_lettersUnderWay_L4 (σ : St) (i0 : Nat) : Nat → Int32 → Int32 → Option Int32
  | 0 => fun _ _ => none
  | n + 1 => f_X2_lettersUnderWay_L4b σ i0 (f_X2_lettersUnderWay_L4 σ i0 n)
def f_X2_lettersUnderWay (σ : St) (i : Nat) : Option Int32 :=
  f_X2_lettersUnderWay_L4 σ i FU 0 0
set_option maxHeartbeats 4000000 in
set_option maxRecDepth 100000 in
theorem l_X2_lettersUnderWay_L4 {E : EV} {l : Launch} {D : va_G} {cy : Nat → ClassId} {Ad : Nat → Nat} {out : St × Option Value} {o : Int32} (hA : AdOK 58 Ad) (xl : XL E l D (AdA 58 Ad)) (g : XG E (wX cy Ad) cy cX2_lettersUnderWay RX2 3 0 (some .int) out) (σ : St) (i0 : Nat) (ho : out = (σ, (some (.int o)))) (h_i0 : i0 < 8) : ∀ (n : Nat) (v1 : Int32) (v2 : Int32), f_X2_lettersUnderWay_L4 σ i0 n v1 v2 = some o → XJ E (wX cy Ad σ) 4 [(0, .ref (Ad (14 + 3 * i0))), (1, .int v1), (2, .int v2)] [] := by
  intro n
  induction n with
  | zero => intro _ _ hf; cases hf
  | succ n ih4 =>
    intro v1 v2 hf
    replace hf : f_X2_lettersUnderWay_L4b σ i0 (f_X2_lettersUnderWay_L4 σ i0 n) v1 v2 = some o := hf
    unfold f_X2_lettersUnderWay_L4b at hf
    refine x_iload_n g 2 dX2_lettersUnderWay_4 rfl rfl ?_
    refine x_bipush g 8 dX2_lettersUnderWay_5 (by decide) ?_
    refine x_icmp_ge g 29 dX2_lettersUnderWay_7 (by decide) hf (fun c7 hf => ?_) (fun c7 hf => ?_)
    · refine x_aload_n g 0 dX2_lettersUnderWay_10 rfl rfl ?_
      refine x_get g fl_X2_15 (wx_C h_i0) rfl dX2_lettersUnderWay_11 ?_
      refine x_iload_n g 2 dX2_lettersUnderWay_14 rfl rfl ?_
      refine x_iald g (wx_Ct h_i0) dX2_lettersUnderWay_15 hf (fun hf => ?_)
      refine x_iconst g (-1) dX2_lettersUnderWay_16 (by decide) ?_
      refine x_icmp_eq g 23 dX2_lettersUnderWay_17 (by decide) hf (fun c17 hf => ?_) (fun c17 hf => ?_)
      · refine x_iinc g 2 (v2 + 1) (lv' := [(2, .int (v2 + 1)), (0, .ref (Ad (14 + 3 * i0))), (1, .int v1)]) dX2_lettersUnderWay_23 rfl (by rfl) (by decide) rfl ?_
        refine x_goto g 4 dX2_lettersUnderWay_26 (by decide) ?_
        exact x_sub [1, 2, 0] rfl (ih4 _ _ hf)
      · refine x_iinc g 1 (v1 + 1) (lv' := [(1, .int (v1 + 1)), (0, .ref (Ad (14 + 3 * i0))), (2, .int v2)]) dX2_lettersUnderWay_20 rfl (by rfl) (by decide) rfl ?_
        refine x_iinc g 2 (v2 + 1) (lv' := [(2, .int (v2 + 1)), (1, .int (v1 + 1)), (0, .ref (Ad (14 + 3 * i0)))]) dX2_lettersUnderWay_23 rfl (by rfl) (by decide) rfl ?_
        refine x_goto g 4 dX2_lettersUnderWay_26 (by decide) ?_
        exact x_sub [2, 1, 0] rfl (ih4 _ _ hf)
    · refine x_iload_n g 1 dX2_lettersUnderWay_29 rfl rfl ?_
      cases hf
      exact x_iret g rfl ho dX2_lettersUnderWay_30
set_option maxHeartbeats 4000000 in
set_option maxRecDepth 100000 in
theorem c_X2_lettersUnderWay {l : Launch} {D : va_G} {cy : Nat → ClassId} {Ad : Nat → Nat} (hA : AdOK 58 Ad) {σ : St} {i : Nat} (h_i : i < 8) {o : Int32} (hf : f_X2_lettersUnderWay σ i = some o) : CT l (wX cy Ad) D cy (AdA 58 Ad) yX2_lettersUnderWay cX2_lettersUnderWay 3 (some .int) 0 [.ref (Ad (14 + 3 * i))] σ (σ, (some (.int o))) := by
  refine CT.of mf_X2_lettersUnderWay (wX_D hA) (Nat.le_of_ble_eq_true rfl) ?_
  intro E xl g
  have ho : ((σ, (some (.int o))) : St × Option Value) = (σ, (some (.int o))) := rfl
  unfold f_X2_lettersUnderWay at hf
  show XJ E (wX cy Ad σ) 0 [(0, .ref (Ad (14 + 3 * i)))] []
  refine x_iconst g 0 dX2_lettersUnderWay_0 (by decide) ?_
  refine x_istore_n (lv' := [(1, .int 0), (0, .ref (Ad (14 + 3 * i)))]) g dX2_lettersUnderWay_1 rfl (by decide) rfl ?_
  refine x_iconst g 0 dX2_lettersUnderWay_2 (by decide) ?_
  refine x_istore_n (lv' := [(2, .int 0), (1, .int 0), (0, .ref (Ad (14 + 3 * i)))]) g dX2_lettersUnderWay_3 rfl (by decide) rfl ?_
  exact x_sub [2, 1, 0] rfl (l_X2_lettersUnderWay_L4 hA xl g _ _ ho h_i FU _ _ hf)
/-! SlotChip$Circuit.tellMoving(I)I -/
def f_X2_tellMoving (σ : St) (i : Nat) (p1 : Int32) : Option Int32 :=
  if p1 = 8 then
    some (σ.1 2 i 8)
  else
    (if p1 = 9 then
      some (σ.1 2 i 11)
    else
      (if p1 = 10 then
        some (σ.1 2 i 9)
      else
        (if p1 = 11 then
          some (σ.1 2 i 10)
        else
          (if p1 = 12 then
            some (σ.1 2 i 12)
          else
            (if p1 = 13 then
              ((f_X2_lettersUnderWay σ i).bind fun r1 =>
              some r1)
            else
              some (σ.1 2 i 14))))))
set_option maxHeartbeats 4000000 in
set_option maxRecDepth 100000 in
theorem c_X2_tellMoving {l : Launch} {D : va_G} {cy : Nat → ClassId} {Ad : Nat → Nat} (hA : AdOK 58 Ad) {σ : St} {i : Nat} {p1 : Int32} (h_i : i < 8) {o : Int32} (hf : f_X2_tellMoving σ i p1 = some o) : CT l (wX cy Ad) D cy (AdA 58 Ad) yX2_tellMoving cX2_tellMoving 2 (some .int) 1 [.ref (Ad (14 + 3 * i)), .int p1] σ (σ, (some (.int o))) := by
  refine CT.of mf_X2_tellMoving (wX_D hA) (Nat.le_of_ble_eq_true rfl) ?_
  intro E xl g
  have ho : ((σ, (some (.int o))) : St × Option Value) = (σ, (some (.int o))) := rfl
  unfold f_X2_tellMoving at hf
  show XJ E (wX cy Ad σ) 0 [(0, .ref (Ad (14 + 3 * i))), (1, .int p1)] []
  refine x_iload_n g 1 dX2_tellMoving_0 rfl rfl ?_
  refine sp hf (fun n_1_8 hf => ?_) (fun n_1_8 hf => ?_)
  · refine x_tin g 8 39 40 dX2_tellMoving_1 n_1_8 (by decide) ?_
    refine x_aload_n g 0 dX2_tellMoving_40 rfl rfl ?_
    refine x_get g fl_X2_47 (wx_C h_i) rfl dX2_tellMoving_41 ?_
    cases hf
    exact x_iret g rfl ho dX2_tellMoving_44
  · refine sp hf (fun n_1_9 hf => ?_) (fun n_1_9 hf => ?_)
    · refine x_tin g 9 44 45 dX2_tellMoving_1 n_1_9 (by decide) ?_
      refine x_aload_n g 0 dX2_tellMoving_45 rfl rfl ?_
      refine x_get g fl_X2_50 (wx_C h_i) rfl dX2_tellMoving_46 ?_
      cases hf
      exact x_iret g rfl ho dX2_tellMoving_49
    · refine sp hf (fun n_1_10 hf => ?_) (fun n_1_10 hf => ?_)
      · refine x_tin g 10 49 50 dX2_tellMoving_1 n_1_10 (by decide) ?_
        refine x_aload_n g 0 dX2_tellMoving_50 rfl rfl ?_
        refine x_get g fl_X2_53 (wx_C h_i) rfl dX2_tellMoving_51 ?_
        cases hf
        exact x_iret g rfl ho dX2_tellMoving_54
      · refine sp hf (fun n_1_11 hf => ?_) (fun n_1_11 hf => ?_)
        · refine x_tin g 11 54 55 dX2_tellMoving_1 n_1_11 (by decide) ?_
          refine x_aload_n g 0 dX2_tellMoving_55 rfl rfl ?_
          refine x_get g fl_X2_56 (wx_C h_i) rfl dX2_tellMoving_56 ?_
          cases hf
          exact x_iret g rfl ho dX2_tellMoving_59
        · refine sp hf (fun n_1_12 hf => ?_) (fun n_1_12 hf => ?_)
          · refine x_tin g 12 59 60 dX2_tellMoving_1 n_1_12 (by decide) ?_
            refine x_aload_n g 0 dX2_tellMoving_60 rfl rfl ?_
            refine x_get g fl_X2_59 (wx_C h_i) rfl dX2_tellMoving_61 ?_
            cases hf
            exact x_iret g rfl ho dX2_tellMoving_64
          · refine sp hf (fun n_1_13 hf => ?_) (fun n_1_13 hf => ?_)
            · refine x_tin g 13 64 65 dX2_tellMoving_1 n_1_13 (by decide) ?_
              refine x_aload_n g 0 dX2_tellMoving_65 rfl rfl ?_
              obtain ⟨r1, hgr1, hf⟩ := obind hf
              refine x_callV (r := (RX2, TX2, 18)) g xl [] [] [.int r1] (c_X2_lettersUnderWay hA h_i hgr1) mf_X2_lettersUnderWay im_X2_lettersUnderWay se_X2_lettersUnderWay ml_X2_116 rfl (wx_C h_i) (by decide) (by decide) rfl (Nat.le_of_ble_eq_true rfl) dX2_tellMoving_66 rfl rfl ?_
              cases hf
              exact x_iret g rfl ho dX2_tellMoving_69
            · refine x_tout g 70 dX2_tellMoving_1 (by have e8 := tI n_1_8 (by decide : (8 : Int32).toInt = 8); have e9 := tI n_1_9 (by decide : (9 : Int32).toInt = 9); have e10 := tI n_1_10 (by decide : (10 : Int32).toInt = 10); have e11 := tI n_1_11 (by decide : (11 : Int32).toInt = 11); have e12 := tI n_1_12 (by decide : (12 : Int32).toInt = 12); have e13 := tI n_1_13 (by decide : (13 : Int32).toInt = 13); omega) (by decide) ?_
              refine x_aload_n g 0 dX2_tellMoving_70 rfl rfl ?_
              refine x_get g fl_X2_41 (wx_C h_i) rfl dX2_tellMoving_71 ?_
              cases hf
              exact x_iret g rfl ho dX2_tellMoving_74
/-! SlotChip.circuit(II)I -/
def f_X11_circuit (σ : St) (p1 : Int32) (p2 : Int32) : Option Int32 :=
  (f_X3_find σ p1).bind fun r1 =>
  onR 8 r1
    (some (-101))
    (fun j2 =>
      if 0 ≤ p2 then
        (if 14 < p2 then
          some (-102)
        else
          (if p2 < 8 then
            ((f_X2_tellMade σ j2 p2 (σ.1 1 0 1)).bind fun r3 =>
            some r3)
          else
            ((f_X2_tellMoving σ j2 p2).bind fun r4 =>
            some r4)))
      else
        some (-102))
set_option maxHeartbeats 4000000 in
set_option maxRecDepth 100000 in
theorem c_X11_circuit {l : Launch} {D : va_G} {cy : Nat → ClassId} {Ad : Nat → Nat} (hA : AdOK 58 Ad) {σ : St} {p1 : Int32} {p2 : Int32} {o : Int32} (hf : f_X11_circuit σ p1 p2 = some o) : CT l (wX cy Ad) D cy (AdA 58 Ad) yX11_circuit cX11_circuit 4 (some .int) 3 [.ref (Ad 0), .int p1, .int p2] σ (σ, (some (.int o))) := by
  refine CT.of mf_X11_circuit (wX_D hA) (Nat.le_of_ble_eq_true rfl) ?_
  intro E xl g
  have ho : ((σ, (some (.int o))) : St × Option Value) = (σ, (some (.int o))) := rfl
  unfold f_X11_circuit at hf
  show XJ E (wX cy Ad σ) 0 [(0, .ref (Ad 0)), (1, .int p1), (2, .int p2)] []
  refine x_aload_n g 0 dX11_circuit_0 rfl rfl ?_
  refine x_get g fl_X11_26 wx_0 rfl dX11_circuit_1 ?_
  refine x_iload_n g 1 dX11_circuit_4 rfl rfl ?_
  obtain ⟨r1, hgr1, hf⟩ := obind hf
  refine onR_sp hf (fun e hf => ?_) (fun j2 h_j2 e hf => ?_)
  · rw [e] at hgr1
    refine x_callV (r := (RX3, TX3, 1)) g xl [.int p1] [] [.null] (c_X3_find hA hgr1) mf_X3_find im_X3_find se_X3_find ml_X11_157 rfl wx_12 (by decide) (by decide) rfl (Nat.le_of_ble_eq_true rfl) dX11_circuit_5 rfl rfl ?_
    refine x_astore_nN (lv' := [(3, .null), (0, .ref (Ad 0)), (1, .int p1), (2, .int p2)]) g dX11_circuit_8 rfl (by decide) rfl ?_
    refine x_aload_nN g 0 dX11_circuit_9 rfl rfl ?_
    refine x_ifnonnullN g dX11_circuit_10 ?_
    refine x_bipush g (-101) dX11_circuit_13 (by decide) ?_
    cases hf
    exact x_iret g rfl ho dX11_circuit_15
  · rw [e] at hgr1
    refine x_callV (r := (RX3, TX3, 1)) g xl [.int p1] [] [.ref (Ad (14 + 3 * j2))] (c_X3_find hA hgr1) mf_X3_find im_X3_find se_X3_find ml_X11_157 rfl wx_12 (by decide) (by decide) rfl (Nat.le_of_ble_eq_true rfl) dX11_circuit_5 rfl rfl ?_
    refine x_astore_n (lv' := [(3, .ref (Ad (14 + 3 * j2))), (0, .ref (Ad 0)), (1, .int p1), (2, .int p2)]) g dX11_circuit_8 rfl (by decide) rfl ?_
    refine x_aload_n g 0 dX11_circuit_9 rfl rfl ?_
    refine x_ifnonnull g 16 dX11_circuit_10 (by decide) ?_
    refine x_iload_n g 3 dX11_circuit_16 rfl rfl ?_
    refine x_if_lt g 26 dX11_circuit_17 (by decide) hf (fun c17 hf => ?_) (fun c17 hf => ?_)
    · refine x_iload_n g 3 dX11_circuit_20 rfl rfl ?_
      refine x_bipush g 14 dX11_circuit_21 (by decide) ?_
      refine x_icmp_le g 29 dX11_circuit_23 (by decide) hf (fun c23 hf => ?_) (fun c23 hf => ?_)
      · refine x_bipush g (-102) dX11_circuit_26 (by decide) ?_
        cases hf
        exact x_iret g rfl ho dX11_circuit_28
      · refine x_iload_n g 3 dX11_circuit_29 rfl rfl ?_
        refine x_bipush g 8 dX11_circuit_30 (by decide) ?_
        refine x_icmp_ge g 50 dX11_circuit_32 (by decide) hf (fun c32 hf => ?_) (fun c32 hf => ?_)
        · refine x_aload_n g 0 dX11_circuit_35 rfl rfl ?_
          refine x_iload_n g 3 dX11_circuit_36 rfl rfl ?_
          refine x_aload_n g 1 dX11_circuit_37 rfl rfl ?_
          refine x_get g fl_X11_19 wx_0 rfl dX11_circuit_38 ?_
          refine x_get g fl_X11_106 wx_6 rfl dX11_circuit_41 ?_
          obtain ⟨r3, hgr3, hf⟩ := obind hf
          refine x_callV (r := (RX2, TX2, 18)) g xl [.int p2, .int (σ.1 1 0 1)] [] [.int r3] (c_X2_tellMade hA h_j2 hgr3) mf_X2_tellMade im_X2_tellMade se_X2_tellMade ml_X11_163 rfl (wx_C h_j2) (by decide) (by decide) rfl (Nat.le_of_ble_eq_true rfl) dX11_circuit_44 rfl rfl ?_
          refine x_goto g 55 dX11_circuit_47 (by decide) ?_
          cases hf
          exact x_iret g rfl ho dX11_circuit_55
        · refine x_aload_n g 0 dX11_circuit_50 rfl rfl ?_
          refine x_iload_n g 3 dX11_circuit_51 rfl rfl ?_
          obtain ⟨r4, hgr4, hf⟩ := obind hf
          refine x_callV (r := (RX2, TX2, 18)) g xl [.int p2] [] [.int r4] (c_X2_tellMoving hA h_j2 hgr4) mf_X2_tellMoving im_X2_tellMoving se_X2_tellMoving ml_X11_166 rfl (wx_C h_j2) (by decide) (by decide) rfl (Nat.le_of_ble_eq_true rfl) dX11_circuit_52 rfl rfl ?_
          cases hf
          exact x_iret g rfl ho dX11_circuit_55
    · refine x_bipush g (-102) dX11_circuit_26 (by decide) ?_
      cases hf
      exact x_iret g rfl ho dX11_circuit_28
/-! SlotChip.route(II)I -/
def f_X11_route (σ : St) (p1 : Int32) (p2 : Int32) : Option Int32 :=
  (f_X3_find σ p1).bind fun r1 =>
  onR 8 r1
    (some (-101))
    (fun j2 =>
      if 0 ≤ p2 then
        ((f_X2_places σ j2).bind fun r3 =>
        if r3 ≤ p2 then
          some (-101)
        else
          ((f_X2_linkAt σ j2 p2).bind fun r4 =>
          some r4))
      else
        some (-101))
set_option maxHeartbeats 4000000 in
set_option maxRecDepth 100000 in
theorem c_X11_route {l : Launch} {D : va_G} {cy : Nat → ClassId} {Ad : Nat → Nat} (hA : AdOK 58 Ad) {σ : St} {p1 : Int32} {p2 : Int32} {o : Int32} (hf : f_X11_route σ p1 p2 = some o) : CT l (wX cy Ad) D cy (AdA 58 Ad) yX11_route cX11_route 4 (some .int) 2 [.ref (Ad 0), .int p1, .int p2] σ (σ, (some (.int o))) := by
  refine CT.of mf_X11_route (wX_D hA) (Nat.le_of_ble_eq_true rfl) ?_
  intro E xl g
  have ho : ((σ, (some (.int o))) : St × Option Value) = (σ, (some (.int o))) := rfl
  unfold f_X11_route at hf
  show XJ E (wX cy Ad σ) 0 [(0, .ref (Ad 0)), (1, .int p1), (2, .int p2)] []
  refine x_aload_n g 0 dX11_route_0 rfl rfl ?_
  refine x_get g fl_X11_26 wx_0 rfl dX11_route_1 ?_
  refine x_iload_n g 1 dX11_route_4 rfl rfl ?_
  obtain ⟨r1, hgr1, hf⟩ := obind hf
  refine onR_sp hf (fun e hf => ?_) (fun j2 h_j2 e hf => ?_)
  · rw [e] at hgr1
    refine x_callV (r := (RX3, TX3, 1)) g xl [.int p1] [] [.null] (c_X3_find hA hgr1) mf_X3_find im_X3_find se_X3_find ml_X11_157 rfl wx_12 (by decide) (by decide) rfl (Nat.le_of_ble_eq_true rfl) dX11_route_5 rfl rfl ?_
    refine x_astore_nN (lv' := [(3, .null), (0, .ref (Ad 0)), (1, .int p1), (2, .int p2)]) g dX11_route_8 rfl (by decide) rfl ?_
    refine x_aload_nN g 0 dX11_route_9 rfl rfl ?_
    refine x_ifnullN g 25 dX11_route_10 (by decide) ?_
    refine x_bipush g (-101) dX11_route_25 (by decide) ?_
    refine x_goto g 35 dX11_route_27 (by decide) ?_
    cases hf
    exact x_iret g rfl ho dX11_route_35
  · rw [e] at hgr1
    refine x_callV (r := (RX3, TX3, 1)) g xl [.int p1] [] [.ref (Ad (14 + 3 * j2))] (c_X3_find hA hgr1) mf_X3_find im_X3_find se_X3_find ml_X11_157 rfl wx_12 (by decide) (by decide) rfl (Nat.le_of_ble_eq_true rfl) dX11_route_5 rfl rfl ?_
    refine x_astore_n (lv' := [(3, .ref (Ad (14 + 3 * j2))), (0, .ref (Ad 0)), (1, .int p1), (2, .int p2)]) g dX11_route_8 rfl (by decide) rfl ?_
    refine x_aload_n g 0 dX11_route_9 rfl rfl ?_
    refine x_ifnull g dX11_route_10 ?_
    refine x_iload_n g 3 dX11_route_13 rfl rfl ?_
    refine x_if_lt g 25 dX11_route_14 (by decide) hf (fun c14 hf => ?_) (fun c14 hf => ?_)
    · refine x_iload_n g 3 dX11_route_17 rfl rfl ?_
      refine x_aload_n g 0 dX11_route_18 rfl rfl ?_
      obtain ⟨r3, hgr3, hf⟩ := obind hf
      refine x_callV (r := (RX2, TX2, 18)) g xl [] [.int p2] [.int r3, .int p2] (c_X2_places hA h_j2 hgr3) mf_X2_places im_X2_places se_X2_places ml_X11_169 rfl (wx_C h_j2) (by decide) (by decide) rfl (Nat.le_of_ble_eq_true rfl) dX11_route_19 rfl rfl ?_
      refine x_icmp_lt g 30 dX11_route_22 (by decide) hf (fun c22 hf => ?_) (fun c22 hf => ?_)
      · refine x_bipush g (-101) dX11_route_25 (by decide) ?_
        refine x_goto g 35 dX11_route_27 (by decide) ?_
        cases hf
        exact x_iret g rfl ho dX11_route_35
      · refine x_aload_n g 0 dX11_route_30 rfl rfl ?_
        refine x_iload_n g 3 dX11_route_31 rfl rfl ?_
        obtain ⟨r4, hgr4, hf⟩ := obind hf
        refine x_callV (r := (RX2, TX2, 18)) g xl [.int p2] [] [.int r4] (c_X2_linkAt hA h_j2 hgr4) mf_X2_linkAt im_X2_linkAt se_X2_linkAt ml_X11_172 rfl (wx_C h_j2) (by decide) (by decide) rfl (Nat.le_of_ble_eq_true rfl) dX11_route_32 rfl rfl ?_
        cases hf
        exact x_iret g rfl ho dX11_route_35
    · refine x_bipush g (-101) dX11_route_25 (by decide) ?_
      refine x_goto g 35 dX11_route_27 (by decide) ?_
      cases hf
      exact x_iret g rfl ho dX11_route_35
/-! SlotChip$Circuit.startAt(I)I -/
def f_X2_startAt_L4b (σ : St) (i0 : Nat) (K4 : Int32 → Int32 → Option Int32) (v2 : Int32) (v3 : Int32) : Option Int32 :=
  if v3 < 10 then
    ((f_X2_hasStart σ i0 v3).bind fun r1 =>
    if r1 = 0 then
      K4 v2 (v3 + 1)
    else
      (if v2 = 0 then
        some v3
      else
        K4 (v2 + (-1)) (v3 + 1)))
  else
    some (-1)
def f_X2_startAt_L4 (σ : St) (i0 : Nat) : Nat → Int32 → Int32 → Option Int32
  | 0 => fun _ _ => none
  | n + 1 => f_X2_startAt_L4b σ i0 (f_X2_startAt_L4 σ i0 n)
def f_X2_startAt (σ : St) (i : Nat) (p1 : Int32) : Option Int32 :=
  f_X2_startAt_L4 σ i FU p1 0
set_option maxHeartbeats 4000000 in
set_option maxRecDepth 100000 in
theorem l_X2_startAt_L4 {E : EV} {l : Launch} {D : va_G} {cy : Nat → ClassId} {Ad : Nat → Nat} {out : St × Option Value} {o : Int32} (hA : AdOK 58 Ad) (xl : XL E l D (AdA 58 Ad)) (g : XG E (wX cy Ad) cy cX2_startAt RX2 4 1 (some .int) out) (σ : St) (i0 : Nat) (ho : out = (σ, (some (.int o)))) (h_i0 : i0 < 8) : ∀ (n : Nat) (v2 : Int32) (v3 : Int32), f_X2_startAt_L4 σ i0 n v2 v3 = some o → XJ E (wX cy Ad σ) 4 [(0, .ref (Ad (14 + 3 * i0))), (2, .int v2), (3, .int v3)] [] := by
  intro n
  induction n with
  | zero => intro _ _ hf; cases hf
  | succ n ih4 =>
    intro v2 v3 hf
    replace hf : f_X2_startAt_L4b σ i0 (f_X2_startAt_L4 σ i0 n) v2 v3 = some o := hf
    unfold f_X2_startAt_L4b at hf
    refine x_iload_n g 2 dX2_startAt_4 rfl rfl ?_
    refine x_bipush g 10 dX2_startAt_5 (by decide) ?_
    refine x_icmp_ge g 33 dX2_startAt_7 (by decide) hf (fun c7 hf => ?_) (fun c7 hf => ?_)
    · refine x_aload_n g 0 dX2_startAt_10 rfl rfl ?_
      refine x_iload_n g 2 dX2_startAt_11 rfl rfl ?_
      obtain ⟨r1, hgr1, hf⟩ := obind hf
      refine x_callV (r := (RX2, TX2, 18)) g xl [.int v3] [] [.int r1] (c_X2_hasStart hA h_i0 hgr1) mf_X2_hasStart im_X2_hasStart se_X2_hasStart ml_X2_80 rfl (wx_C h_i0) (by decide) (by decide) rfl (Nat.le_of_ble_eq_true rfl) dX2_startAt_12 rfl rfl ?_
      refine x_if_eq g 27 dX2_startAt_15 (by decide) hf (fun c15 hf => ?_) (fun c15 hf => ?_)
      · refine x_iinc g 2 (v3 + 1) (lv' := [(3, .int (v3 + 1)), (0, .ref (Ad (14 + 3 * i0))), (2, .int v2)]) dX2_startAt_27 rfl (by rfl) (by decide) rfl ?_
        refine x_goto g 4 dX2_startAt_30 (by decide) ?_
        exact x_sub [1, 2, 0] rfl (ih4 _ _ hf)
      · refine x_iload_n g 1 dX2_startAt_18 rfl rfl ?_
        refine x_if_ne g 24 dX2_startAt_19 (by decide) hf (fun c19 hf => ?_) (fun c19 hf => ?_)
        · refine x_iload_n g 2 dX2_startAt_22 rfl rfl ?_
          cases hf
          exact x_iret g rfl ho dX2_startAt_23
        · refine x_iinc g 1 (v2 + (-1)) (lv' := [(2, .int (v2 + (-1))), (0, .ref (Ad (14 + 3 * i0))), (3, .int v3)]) dX2_startAt_24 rfl (by rfl) (by decide) rfl ?_
          refine x_iinc g 2 (v3 + 1) (lv' := [(3, .int (v3 + 1)), (2, .int (v2 + (-1))), (0, .ref (Ad (14 + 3 * i0)))]) dX2_startAt_27 rfl (by rfl) (by decide) rfl ?_
          refine x_goto g 4 dX2_startAt_30 (by decide) ?_
          exact x_sub [2, 1, 0] rfl (ih4 _ _ hf)
    · refine x_iconst g (-1) dX2_startAt_33 (by decide) ?_
      cases hf
      exact x_iret g rfl ho dX2_startAt_34
set_option maxHeartbeats 4000000 in
set_option maxRecDepth 100000 in
theorem c_X2_startAt {l : Launch} {D : va_G} {cy : Nat → ClassId} {Ad : Nat → Nat} (hA : AdOK 58 Ad) {σ : St} {i : Nat} {p1 : Int32} (h_i : i < 8) {o : Int32} (hf : f_X2_startAt σ i p1 = some o) : CT l (wX cy Ad) D cy (AdA 58 Ad) yX2_startAt cX2_startAt 4 (some .int) 1 [.ref (Ad (14 + 3 * i)), .int p1] σ (σ, (some (.int o))) := by
  refine CT.of mf_X2_startAt (wX_D hA) (Nat.le_of_ble_eq_true rfl) ?_
  intro E xl g
  have ho : ((σ, (some (.int o))) : St × Option Value) = (σ, (some (.int o))) := rfl
  unfold f_X2_startAt at hf
  show XJ E (wX cy Ad σ) 0 [(0, .ref (Ad (14 + 3 * i))), (1, .int p1)] []
  refine x_iload_n g 1 dX2_startAt_0 rfl rfl ?_
  refine x_istore_n (lv' := [(2, .int p1), (0, .ref (Ad (14 + 3 * i))), (1, .int p1)]) g dX2_startAt_1 rfl (by decide) rfl ?_
  refine x_iconst g 0 dX2_startAt_2 (by decide) ?_
  refine x_istore_n (lv' := [(3, .int 0), (2, .int p1), (0, .ref (Ad (14 + 3 * i))), (1, .int p1)]) g dX2_startAt_3 rfl (by decide) rfl ?_
  exact x_sub [2, 1, 0] rfl (l_X2_startAt_L4 hA xl g _ _ ho h_i FU _ _ hf)
/-! SlotChip.start(II)I -/
def f_X11_start (σ : St) (p1 : Int32) (p2 : Int32) : Option Int32 :=
  (f_X3_find σ p1).bind fun r1 =>
  onR 8 r1
    (some (-101))
    (fun j2 =>
      if 0 ≤ p2 then
        (if (σ.1 2 j2 5) ≤ p2 then
          some (-101)
        else
          ((f_X2_startAt σ j2 p2).bind fun r3 =>
          some r3))
      else
        some (-101))
set_option maxHeartbeats 4000000 in
set_option maxRecDepth 100000 in
theorem c_X11_start {l : Launch} {D : va_G} {cy : Nat → ClassId} {Ad : Nat → Nat} (hA : AdOK 58 Ad) {σ : St} {p1 : Int32} {p2 : Int32} {o : Int32} (hf : f_X11_start σ p1 p2 = some o) : CT l (wX cy Ad) D cy (AdA 58 Ad) yX11_start cX11_start 4 (some .int) 2 [.ref (Ad 0), .int p1, .int p2] σ (σ, (some (.int o))) := by
  refine CT.of mf_X11_start (wX_D hA) (Nat.le_of_ble_eq_true rfl) ?_
  intro E xl g
  have ho : ((σ, (some (.int o))) : St × Option Value) = (σ, (some (.int o))) := rfl
  unfold f_X11_start at hf
  show XJ E (wX cy Ad σ) 0 [(0, .ref (Ad 0)), (1, .int p1), (2, .int p2)] []
  refine x_aload_n g 0 dX11_start_0 rfl rfl ?_
  refine x_get g fl_X11_26 wx_0 rfl dX11_start_1 ?_
  refine x_iload_n g 1 dX11_start_4 rfl rfl ?_
  obtain ⟨r1, hgr1, hf⟩ := obind hf
  refine onR_sp hf (fun e hf => ?_) (fun j2 h_j2 e hf => ?_)
  · rw [e] at hgr1
    refine x_callV (r := (RX3, TX3, 1)) g xl [.int p1] [] [.null] (c_X3_find hA hgr1) mf_X3_find im_X3_find se_X3_find ml_X11_157 rfl wx_12 (by decide) (by decide) rfl (Nat.le_of_ble_eq_true rfl) dX11_start_5 rfl rfl ?_
    refine x_astore_nN (lv' := [(3, .null), (0, .ref (Ad 0)), (1, .int p1), (2, .int p2)]) g dX11_start_8 rfl (by decide) rfl ?_
    refine x_aload_nN g 0 dX11_start_9 rfl rfl ?_
    refine x_ifnullN g 25 dX11_start_10 (by decide) ?_
    refine x_bipush g (-101) dX11_start_25 (by decide) ?_
    refine x_goto g 35 dX11_start_27 (by decide) ?_
    cases hf
    exact x_iret g rfl ho dX11_start_35
  · rw [e] at hgr1
    refine x_callV (r := (RX3, TX3, 1)) g xl [.int p1] [] [.ref (Ad (14 + 3 * j2))] (c_X3_find hA hgr1) mf_X3_find im_X3_find se_X3_find ml_X11_157 rfl wx_12 (by decide) (by decide) rfl (Nat.le_of_ble_eq_true rfl) dX11_start_5 rfl rfl ?_
    refine x_astore_n (lv' := [(3, .ref (Ad (14 + 3 * j2))), (0, .ref (Ad 0)), (1, .int p1), (2, .int p2)]) g dX11_start_8 rfl (by decide) rfl ?_
    refine x_aload_n g 0 dX11_start_9 rfl rfl ?_
    refine x_ifnull g dX11_start_10 ?_
    refine x_iload_n g 3 dX11_start_13 rfl rfl ?_
    refine x_if_lt g 25 dX11_start_14 (by decide) hf (fun c14 hf => ?_) (fun c14 hf => ?_)
    · refine x_iload_n g 3 dX11_start_17 rfl rfl ?_
      refine x_aload_n g 0 dX11_start_18 rfl rfl ?_
      refine x_get g fl_X11_175 (wx_C h_j2) rfl dX11_start_19 ?_
      refine x_icmp_lt g 30 dX11_start_22 (by decide) hf (fun c22 hf => ?_) (fun c22 hf => ?_)
      · refine x_bipush g (-101) dX11_start_25 (by decide) ?_
        refine x_goto g 35 dX11_start_27 (by decide) ?_
        cases hf
        exact x_iret g rfl ho dX11_start_35
      · refine x_aload_n g 0 dX11_start_30 rfl rfl ?_
        refine x_iload_n g 3 dX11_start_31 rfl rfl ?_
        obtain ⟨r3, hgr3, hf⟩ := obind hf
        refine x_callV (r := (RX2, TX2, 18)) g xl [.int p2] [] [.int r3] (c_X2_startAt hA h_j2 hgr3) mf_X2_startAt im_X2_startAt se_X2_startAt ml_X11_178 rfl (wx_C h_j2) (by decide) (by decide) rfl (Nat.le_of_ble_eq_true rfl) dX11_start_32 rfl rfl ?_
        cases hf
        exact x_iret g rfl ho dX11_start_35
    · refine x_bipush g (-101) dX11_start_25 (by decide) ?_
      refine x_goto g 35 dX11_start_27 (by decide) ?_
      cases hf
      exact x_iret g rfl ho dX11_start_35
/-! SlotChip$Circuit.isReverseOf(LSlotChip$Circuit;)Z -/
def f_X2_isReverseOf (σ : St) (i : Nat) (p1 : Nat) : Option Int32 :=
  if (σ.1 2 i 3) = (σ.1 2 p1 4) then
    (if (σ.1 2 i 4) = (σ.1 2 p1 3) then
      some 1
    else
      some 0)
  else
    some 0
set_option maxHeartbeats 4000000 in
set_option maxRecDepth 100000 in
theorem c_X2_isReverseOf {l : Launch} {D : va_G} {cy : Nat → ClassId} {Ad : Nat → Nat} (hA : AdOK 58 Ad) {σ : St} {i : Nat} {p1 : Nat} (h_i : i < 8) (h_p1 : p1 < 8) {o : Int32} (hf : f_X2_isReverseOf σ i p1 = some o) : CT l (wX cy Ad) D cy (AdA 58 Ad) yX2_isReverseOf cX2_isReverseOf 2 (some .boolean) 0 [.ref (Ad (14 + 3 * i)), .ref (Ad (14 + 3 * p1))] σ (σ, (some (.int o))) := by
  refine CT.of mf_X2_isReverseOf (wX_D hA) (Nat.le_of_ble_eq_true rfl) ?_
  intro E xl g
  have ho : ((σ, (some (.int o))) : St × Option Value) = (σ, (some (.int o))) := rfl
  unfold f_X2_isReverseOf at hf
  show XJ E (wX cy Ad σ) 0 [(0, .ref (Ad (14 + 3 * i))), (1, .ref (Ad (14 + 3 * p1)))] []
  refine x_aload_n g 0 dX2_isReverseOf_0 rfl rfl ?_
  refine x_get g fl_X2_29 (wx_C h_i) rfl dX2_isReverseOf_1 ?_
  refine x_aload_n g 1 dX2_isReverseOf_4 rfl rfl ?_
  refine x_get g fl_X2_32 (wx_C h_p1) rfl dX2_isReverseOf_5 ?_
  refine x_icmp_ne g 26 dX2_isReverseOf_8 (by decide) hf (fun c8 hf => ?_) (fun c8 hf => ?_)
  · refine x_aload_n g 0 dX2_isReverseOf_11 rfl rfl ?_
    refine x_get g fl_X2_32 (wx_C h_i) rfl dX2_isReverseOf_12 ?_
    refine x_aload_n g 1 dX2_isReverseOf_15 rfl rfl ?_
    refine x_get g fl_X2_29 (wx_C h_p1) rfl dX2_isReverseOf_16 ?_
    refine x_icmp_ne g 26 dX2_isReverseOf_19 (by decide) hf (fun c19 hf => ?_) (fun c19 hf => ?_)
    · refine x_iconst g 1 dX2_isReverseOf_22 (by decide) ?_
      refine x_goto g 27 dX2_isReverseOf_23 (by decide) ?_
      cases hf
      exact x_zret g rfl (by decide) ho dX2_isReverseOf_27
    · refine x_iconst g 0 dX2_isReverseOf_26 (by decide) ?_
      cases hf
      exact x_zret g rfl (by decide) ho dX2_isReverseOf_27
  · refine x_iconst g 0 dX2_isReverseOf_26 (by decide) ?_
    cases hf
    exact x_zret g rfl (by decide) ho dX2_isReverseOf_27
/-! SlotChip.pair(II)I -/
def f_X11_pair (σ : St) (p1 : Int32) (p2 : Int32) : Option (St × Int32) :=
  (f_X3_find σ p1).bind fun r1 =>
  onR 8 r1
    ((f_X3_find σ p2).bind fun r3 =>
    onR 8 r3
      (some (σ, (-101)))
      (fun j4 =>
        some (σ, (-101))))
    (fun j2 =>
      (f_X3_find σ p2).bind fun r5 =>
      onR 8 r5
        (some (σ, (-101)))
        (fun j6 =>
          if p1 = p2 then
            some (σ, (-101))
          else
            (if (σ.1 2 j2 7) = (-1) then
              (if (σ.1 2 j6 7) = (-1) then
                ((f_X2_isReverseOf σ j2 j6).bind fun r7 =>
                if r7 = 0 then
                  some (σ, (-103))
                else
                  (bnd (si σ 2 j2 7 (σ.1 2 j6 0)) fun σ8 =>
                  bnd (si σ8 2 j6 7 (σ8.1 2 j2 0)) fun σ9 =>
                  some (σ9, ((σ9.1 2 j2 6) + (σ9.1 2 j6 6)))))
              else
                some (σ, (-103)))
            else
              some (σ, (-103)))))
set_option maxHeartbeats 4000000 in
set_option maxRecDepth 100000 in
theorem c_X11_pair {l : Launch} {D : va_G} {cy : Nat → ClassId} {Ad : Nat → Nat} (hA : AdOK 58 Ad) {σ : St} {p1 : Int32} {p2 : Int32} {o : (St × Int32)} (hf : f_X11_pair σ p1 p2 = some o) : CT l (wX cy Ad) D cy (AdA 58 Ad) yX11_pair cX11_pair 5 (some .int) 1 [.ref (Ad 0), .int p1, .int p2] σ (o.1, (some (.int o.2))) := by
  refine CT.of mf_X11_pair (wX_D hA) (Nat.le_of_ble_eq_true rfl) ?_
  intro E xl g
  have ho : ((o.1, (some (.int o.2))) : St × Option Value) = (o.1, (some (.int o.2))) := rfl
  unfold f_X11_pair at hf
  show XJ E (wX cy Ad σ) 0 [(0, .ref (Ad 0)), (1, .int p1), (2, .int p2)] []
  refine x_aload_n g 0 dX11_pair_0 rfl rfl ?_
  refine x_get g fl_X11_26 wx_0 rfl dX11_pair_1 ?_
  refine x_iload_n g 1 dX11_pair_4 rfl rfl ?_
  obtain ⟨r1, hgr1, hf⟩ := obind hf
  refine onR_sp hf (fun e hf => ?_) (fun j2 h_j2 e hf => ?_)
  · rw [e] at hgr1
    refine x_callV (r := (RX3, TX3, 1)) g xl [.int p1] [] [.null] (c_X3_find hA hgr1) mf_X3_find im_X3_find se_X3_find ml_X11_157 rfl wx_12 (by decide) (by decide) rfl (Nat.le_of_ble_eq_true rfl) dX11_pair_5 rfl rfl ?_
    refine x_astore_nN (lv' := [(3, .null), (0, .ref (Ad 0)), (1, .int p1), (2, .int p2)]) g dX11_pair_8 rfl (by decide) rfl ?_
    refine x_aload_n g 1 dX11_pair_9 rfl rfl ?_
    refine x_get g fl_X11_26 wx_0 rfl dX11_pair_10 ?_
    refine x_iload_n g 3 dX11_pair_13 rfl rfl ?_
    obtain ⟨r3, hgr3, hf⟩ := obind hf
    refine onR_sp hf (fun e hf => ?_) (fun j4 h_j4 e hf => ?_)
    · rw [e] at hgr3
      refine x_callV (r := (RX3, TX3, 1)) g xl [.int p2] [] [.null] (c_X3_find hA hgr3) mf_X3_find im_X3_find se_X3_find ml_X11_157 rfl wx_12 (by decide) (by decide) rfl (Nat.le_of_ble_eq_true rfl) dX11_pair_14 rfl rfl ?_
      refine x_astoreN (lv' := [(4, .null), (3, .null), (0, .ref (Ad 0)), (1, .int p1), (2, .int p2)]) g dX11_pair_17 (by decide) rfl ?_
      refine x_aload_nN g 1 dX11_pair_19 rfl rfl ?_
      refine x_ifnullN g 33 dX11_pair_20 (by decide) ?_
      refine x_bipush g (-101) dX11_pair_33 (by decide) ?_
      cases hf
      exact x_iret g rfl ho dX11_pair_35
    · rw [e] at hgr3
      refine x_callV (r := (RX3, TX3, 1)) g xl [.int p2] [] [.ref (Ad (14 + 3 * j4))] (c_X3_find hA hgr3) mf_X3_find im_X3_find se_X3_find ml_X11_157 rfl wx_12 (by decide) (by decide) rfl (Nat.le_of_ble_eq_true rfl) dX11_pair_14 rfl rfl ?_
      refine x_astore (lv' := [(4, .ref (Ad (14 + 3 * j4))), (3, .null), (0, .ref (Ad 0)), (1, .int p1), (2, .int p2)]) g dX11_pair_17 (by decide) rfl ?_
      refine x_aload_nN g 1 dX11_pair_19 rfl rfl ?_
      refine x_ifnullN g 33 dX11_pair_20 (by decide) ?_
      refine x_bipush g (-101) dX11_pair_33 (by decide) ?_
      cases hf
      exact x_iret g rfl ho dX11_pair_35
  · rw [e] at hgr1
    refine x_callV (r := (RX3, TX3, 1)) g xl [.int p1] [] [.ref (Ad (14 + 3 * j2))] (c_X3_find hA hgr1) mf_X3_find im_X3_find se_X3_find ml_X11_157 rfl wx_12 (by decide) (by decide) rfl (Nat.le_of_ble_eq_true rfl) dX11_pair_5 rfl rfl ?_
    refine x_astore_n (lv' := [(3, .ref (Ad (14 + 3 * j2))), (0, .ref (Ad 0)), (1, .int p1), (2, .int p2)]) g dX11_pair_8 rfl (by decide) rfl ?_
    refine x_aload_n g 1 dX11_pair_9 rfl rfl ?_
    refine x_get g fl_X11_26 wx_0 rfl dX11_pair_10 ?_
    refine x_iload_n g 3 dX11_pair_13 rfl rfl ?_
    obtain ⟨r5, hgr5, hf⟩ := obind hf
    refine onR_sp hf (fun e hf => ?_) (fun j6 h_j6 e hf => ?_)
    · rw [e] at hgr5
      refine x_callV (r := (RX3, TX3, 1)) g xl [.int p2] [] [.null] (c_X3_find hA hgr5) mf_X3_find im_X3_find se_X3_find ml_X11_157 rfl wx_12 (by decide) (by decide) rfl (Nat.le_of_ble_eq_true rfl) dX11_pair_14 rfl rfl ?_
      refine x_astoreN (lv' := [(4, .null), (3, .ref (Ad (14 + 3 * j2))), (0, .ref (Ad 0)), (1, .int p1), (2, .int p2)]) g dX11_pair_17 (by decide) rfl ?_
      refine x_aload_n g 1 dX11_pair_19 rfl rfl ?_
      refine x_ifnull g dX11_pair_20 ?_
      refine x_aloadN g 0 dX11_pair_23 rfl ?_
      refine x_ifnullN g 33 dX11_pair_25 (by decide) ?_
      refine x_bipush g (-101) dX11_pair_33 (by decide) ?_
      cases hf
      exact x_iret g rfl ho dX11_pair_35
    · rw [e] at hgr5
      refine x_callV (r := (RX3, TX3, 1)) g xl [.int p2] [] [.ref (Ad (14 + 3 * j6))] (c_X3_find hA hgr5) mf_X3_find im_X3_find se_X3_find ml_X11_157 rfl wx_12 (by decide) (by decide) rfl (Nat.le_of_ble_eq_true rfl) dX11_pair_14 rfl rfl ?_
      refine x_astore (lv' := [(4, .ref (Ad (14 + 3 * j6))), (3, .ref (Ad (14 + 3 * j2))), (0, .ref (Ad 0)), (1, .int p1), (2, .int p2)]) g dX11_pair_17 (by decide) rfl ?_
      refine x_aload_n g 1 dX11_pair_19 rfl rfl ?_
      refine x_ifnull g dX11_pair_20 ?_
      refine x_aload g 0 dX11_pair_23 rfl ?_
      refine x_ifnull g dX11_pair_25 ?_
      refine x_iload_n g 3 dX11_pair_28 rfl rfl ?_
      refine x_iload_n g 4 dX11_pair_29 rfl rfl ?_
      refine x_icmp_ne g 36 dX11_pair_30 (by decide) hf (fun c30 hf => ?_) (fun c30 hf => ?_)
      · refine x_bipush g (-101) dX11_pair_33 (by decide) ?_
        cases hf
        exact x_iret g rfl ho dX11_pair_35
      · refine x_aload_n g 1 dX11_pair_36 rfl rfl ?_
        refine x_get g fl_X11_181 (wx_C h_j2) rfl dX11_pair_37 ?_
        refine x_iconst g (-1) dX11_pair_40 (by decide) ?_
        refine x_icmp_ne g 62 dX11_pair_41 (by decide) hf (fun c41 hf => ?_) (fun c41 hf => ?_)
        · refine x_aload g 0 dX11_pair_44 rfl ?_
          refine x_get g fl_X11_181 (wx_C h_j6) rfl dX11_pair_46 ?_
          refine x_iconst g (-1) dX11_pair_49 (by decide) ?_
          refine x_icmp_ne g 62 dX11_pair_50 (by decide) hf (fun c50 hf => ?_) (fun c50 hf => ?_)
          · refine x_aload_n g 1 dX11_pair_53 rfl rfl ?_
            refine x_aload g 0 dX11_pair_54 rfl ?_
            obtain ⟨r7, hgr7, hf⟩ := obind hf
            refine x_callV (r := (RX2, TX2, 18)) g xl [.ref (Ad (14 + 3 * j6))] [] [.int r7] (c_X2_isReverseOf hA h_j2 h_j6 hgr7) mf_X2_isReverseOf im_X2_isReverseOf se_X2_isReverseOf ml_X11_184 rfl (wx_C h_j2) (by decide) (by decide) rfl (Nat.le_of_ble_eq_true rfl) dX11_pair_56 rfl rfl ?_
            refine x_if_ne g 65 dX11_pair_59 (by decide) hf (fun c59 hf => ?_) (fun c59 hf => ?_)
            · refine x_bipush g (-103) dX11_pair_62 (by decide) ?_
              cases hf
              exact x_iret g rfl ho dX11_pair_64
            · refine x_aload_n g 1 dX11_pair_65 rfl rfl ?_
              refine x_aload g 0 dX11_pair_66 rfl ?_
              refine x_get g fl_X11_154 (wx_C h_j6) rfl dX11_pair_68 ?_
              refine x_putB g tyX2 fl_X11_181 tyX2_ok nmX2 (wx_C h_j2) rfl rfl rfl (Nat.le_of_ble_eq_true rfl) (sx_C_7 h_j2 _) dX11_pair_71 hf (fun σ8 hf => ?_)
              refine x_aload g 0 dX11_pair_74 rfl ?_
              refine x_aload_n g 1 dX11_pair_76 rfl rfl ?_
              refine x_get g fl_X11_154 (wx_C h_j2) rfl dX11_pair_77 ?_
              refine x_putB g tyX2 fl_X11_181 tyX2_ok nmX2 (wx_C h_j6) rfl rfl rfl (Nat.le_of_ble_eq_true rfl) (sx_C_7 h_j6 _) dX11_pair_80 hf (fun σ9 hf => ?_)
              refine x_aload_n g 1 dX11_pair_83 rfl rfl ?_
              refine x_get g fl_X11_188 (wx_C h_j2) rfl dX11_pair_84 ?_
              refine x_aload g 0 dX11_pair_87 rfl ?_
              refine x_get g fl_X11_188 (wx_C h_j6) rfl dX11_pair_89 ?_
              refine x_iadd g dX11_pair_92 ?_
              cases hf
              exact x_iret g rfl ho dX11_pair_93
          · refine x_bipush g (-103) dX11_pair_62 (by decide) ?_
            cases hf
            exact x_iret g rfl ho dX11_pair_64
        · refine x_bipush g (-103) dX11_pair_62 (by decide) ?_
          cases hf
          exact x_iret g rfl ho dX11_pair_64
/-! SlotChip.move(I)I -/
def f_X11_move (σ : St) (p1 : Int32) : Option (St × Int32) :=
  (f_X3_find σ p1).bind fun r1 =>
  onR 8 r1
    (some (σ, (-101)))
    (fun j2 =>
      (f_X2_lettersUnderWay σ j2).bind fun r3 =>
      if 0 < r3 then
        some (σ, (-103))
      else
        ((f_X1_mark σ j2 (-1)).bind fun σ5 =>
        (f_X6_find σ5 (σ5.1 2 j2 2) (σ5.1 2 j2 3) (σ5.1 2 j2 4) (σ5.1 2 j2 5)).bind fun (σ7, r6) =>
        if r6 = 0 then
          ((f_X1_mark σ7 j2 (σ7.1 2 j2 0)).bind fun σ9 =>
          some (σ9, (-103)))
        else
          ((f_X6_giveTo σ7 j2).bind fun σ11 =>
          some (σ11, (σ11.1 2 j2 6)))))
set_option maxHeartbeats 4000000 in
set_option maxRecDepth 100000 in
theorem c_X11_move {l : Launch} {D : va_G} {cy : Nat → ClassId} {Ad : Nat → Nat} (hA : AdOK 58 Ad) {σ : St} {p1 : Int32} {o : (St × Int32)} (hf : f_X11_move σ p1 = some o) : CT l (wX cy Ad) D cy (AdA 58 Ad) yX11_move cX11_move 3 (some .int) 23 [.ref (Ad 0), .int p1] σ (o.1, (some (.int o.2))) := by
  refine CT.of mf_X11_move (wX_D hA) (Nat.le_of_ble_eq_true rfl) ?_
  intro E xl g
  have ho : ((o.1, (some (.int o.2))) : St × Option Value) = (o.1, (some (.int o.2))) := rfl
  unfold f_X11_move at hf
  show XJ E (wX cy Ad σ) 0 [(0, .ref (Ad 0)), (1, .int p1)] []
  refine x_aload_n g 0 dX11_move_0 rfl rfl ?_
  refine x_get g fl_X11_26 wx_0 rfl dX11_move_1 ?_
  refine x_iload_n g 1 dX11_move_4 rfl rfl ?_
  obtain ⟨r1, hgr1, hf⟩ := obind hf
  refine onR_sp hf (fun e hf => ?_) (fun j2 h_j2 e hf => ?_)
  · rw [e] at hgr1
    refine x_callV (r := (RX3, TX3, 1)) g xl [.int p1] [] [.null] (c_X3_find hA hgr1) mf_X3_find im_X3_find se_X3_find ml_X11_157 rfl wx_12 (by decide) (by decide) rfl (Nat.le_of_ble_eq_true rfl) dX11_move_5 rfl rfl ?_
    refine x_astore_nN (lv' := [(2, .null), (0, .ref (Ad 0)), (1, .int p1)]) g dX11_move_8 rfl (by decide) rfl ?_
    refine x_aload_nN g 0 dX11_move_9 rfl rfl ?_
    refine x_ifnonnullN g dX11_move_10 ?_
    refine x_bipush g (-101) dX11_move_13 (by decide) ?_
    cases hf
    exact x_iret g rfl ho dX11_move_15
  · rw [e] at hgr1
    refine x_callV (r := (RX3, TX3, 1)) g xl [.int p1] [] [.ref (Ad (14 + 3 * j2))] (c_X3_find hA hgr1) mf_X3_find im_X3_find se_X3_find ml_X11_157 rfl wx_12 (by decide) (by decide) rfl (Nat.le_of_ble_eq_true rfl) dX11_move_5 rfl rfl ?_
    refine x_astore_n (lv' := [(2, .ref (Ad (14 + 3 * j2))), (0, .ref (Ad 0)), (1, .int p1)]) g dX11_move_8 rfl (by decide) rfl ?_
    refine x_aload_n g 0 dX11_move_9 rfl rfl ?_
    refine x_ifnonnull g 16 dX11_move_10 (by decide) ?_
    refine x_aload_n g 0 dX11_move_16 rfl rfl ?_
    obtain ⟨r3, hgr3, hf⟩ := obind hf
    refine x_callV (r := (RX2, TX2, 18)) g xl [] [] [.int r3] (c_X2_lettersUnderWay hA h_j2 hgr3) mf_X2_lettersUnderWay im_X2_lettersUnderWay se_X2_lettersUnderWay ml_X11_191 rfl (wx_C h_j2) (by decide) (by decide) rfl (Nat.le_of_ble_eq_true rfl) dX11_move_17 rfl rfl ?_
    refine x_if_le g 26 dX11_move_20 (by decide) hf (fun c20 hf => ?_) (fun c20 hf => ?_)
    · refine x_bipush g (-103) dX11_move_23 (by decide) ?_
      cases hf
      exact x_iret g rfl ho dX11_move_25
    · refine x_aload_n g 1 dX11_move_26 rfl rfl ?_
      refine x_get g fl_X11_19 wx_0 rfl dX11_move_27 ?_
      refine x_aload_n g 0 dX11_move_30 rfl rfl ?_
      refine x_iconst g (-1) dX11_move_31 (by decide) ?_
      obtain ⟨σ5, hgr4, hf⟩ := obind hf
      refine x_callV (r := (RX1, TX1, 6)) g xl [.ref (Ad (14 + 3 * j2)), .int (-1)] [] [] (c_X1_mark hA h_j2 hgr4) mf_X1_mark im_X1_mark se_X1_mark ml_X11_194 rfl wx_6 (by decide) (by decide) rfl (Nat.le_of_ble_eq_true rfl) dX11_move_32 rfl rfl ?_
      refine x_aload_n g 1 dX11_move_35 rfl rfl ?_
      refine x_get g fl_X11_35 wx_0 rfl dX11_move_36 ?_
      refine x_aload_n g 0 dX11_move_39 rfl rfl ?_
      refine x_get g fl_X11_198 (wx_C h_j2) rfl dX11_move_40 ?_
      refine x_aload_n g 0 dX11_move_43 rfl rfl ?_
      refine x_get g fl_X11_201 (wx_C h_j2) rfl dX11_move_44 ?_
      refine x_aload_n g 0 dX11_move_47 rfl rfl ?_
      refine x_get g fl_X11_204 (wx_C h_j2) rfl dX11_move_48 ?_
      refine x_aload_n g 0 dX11_move_51 rfl rfl ?_
      refine x_get g fl_X11_175 (wx_C h_j2) rfl dX11_move_52 ?_
      obtain ⟨⟨σ7, r6⟩, hgr6, hf⟩ := obind hf
      refine x_callV (r := (RX6, TX6, 9)) g xl [.int (σ5.1 2 j2 2), .int (σ5.1 2 j2 3), .int (σ5.1 2 j2 4), .int (σ5.1 2 j2 5)] [] [.int r6] (c_X6_find hA hgr6) mf_X6_find im_X6_find se_X6_find ml_X11_138 rfl wx_38 (by decide) (by decide) rfl (Nat.le_of_ble_eq_true rfl) dX11_move_55 rfl rfl ?_
      refine x_if_ne g 76 dX11_move_58 (by decide) hf (fun c58 hf => ?_) (fun c58 hf => ?_)
      · refine x_aload_n g 1 dX11_move_61 rfl rfl ?_
        refine x_get g fl_X11_19 wx_0 rfl dX11_move_62 ?_
        refine x_aload_n g 0 dX11_move_65 rfl rfl ?_
        refine x_aload_n g 0 dX11_move_66 rfl rfl ?_
        refine x_get g fl_X11_154 (wx_C h_j2) rfl dX11_move_67 ?_
        obtain ⟨σ9, hgr8, hf⟩ := obind hf
        refine x_callV (r := (RX1, TX1, 6)) g xl [.ref (Ad (14 + 3 * j2)), .int (σ7.1 2 j2 0)] [] [] (c_X1_mark hA h_j2 hgr8) mf_X1_mark im_X1_mark se_X1_mark ml_X11_194 rfl wx_6 (by decide) (by decide) rfl (Nat.le_of_ble_eq_true rfl) dX11_move_70 rfl rfl ?_
        refine x_bipush g (-103) dX11_move_73 (by decide) ?_
        cases hf
        exact x_iret g rfl ho dX11_move_75
      · refine x_aload_n g 1 dX11_move_76 rfl rfl ?_
        refine x_get g fl_X11_35 wx_0 rfl dX11_move_77 ?_
        refine x_aload_n g 0 dX11_move_80 rfl rfl ?_
        obtain ⟨σ11, hgr10, hf⟩ := obind hf
        refine x_callV (r := (RX6, TX6, 9)) g xl [.ref (Ad (14 + 3 * j2))] [] [] (c_X6_giveTo hA h_j2 hgr10) mf_X6_giveTo im_X6_giveTo se_X6_giveTo ml_X11_150 rfl wx_38 (by decide) (by decide) rfl (Nat.le_of_ble_eq_true rfl) dX11_move_81 rfl rfl ?_
        refine x_aload_n g 0 dX11_move_84 rfl rfl ?_
        refine x_get g fl_X11_188 (wx_C h_j2) rfl dX11_move_85 ?_
        cases hf
        exact x_iret g rfl ho dX11_move_88
/-! SlotChip.close(I)I -/
def f_X11_close (σ : St) (p1 : Int32) : Option (St × Int32) :=
  (f_X3_find σ p1).bind fun r1 =>
  onR 8 r1
    (some (σ, (-101)))
    (fun j2 =>
      (f_X3_find σ (σ.1 2 j2 7)).bind fun r3 =>
      onR 8 r3
        ((f_X2_lettersUnderWay σ j2).bind fun r5 =>
        if r5 ≤ 0 then
          ((f_X1_mark σ j2 (-1)).bind fun σ7 =>
          bnd (si σ7 2 j2 1 0) fun σ8 =>
          some (σ8, (σ8.1 2 j2 8)))
        else
          some (σ, (-103)))
        (fun j4 =>
          (f_X2_lettersUnderWay σ j2).bind fun r9 =>
          if r9 ≤ 0 then
            ((f_X2_lettersUnderWay σ j4).bind fun r10 =>
            if 0 < r10 then
              some (σ, (-103))
            else
              (bnd (si σ 2 j4 7 (-1)) fun σ11 =>
              (f_X1_mark σ11 j2 (-1)).bind fun σ13 =>
              bnd (si σ13 2 j2 1 0) fun σ14 =>
              some (σ14, (σ14.1 2 j2 8))))
          else
            some (σ, (-103))))
set_option maxHeartbeats 4000000 in
set_option maxRecDepth 100000 in
theorem c_X11_close {l : Launch} {D : va_G} {cy : Nat → ClassId} {Ad : Nat → Nat} (hA : AdOK 58 Ad) {σ : St} {p1 : Int32} {o : (St × Int32)} (hf : f_X11_close σ p1 = some o) : CT l (wX cy Ad) D cy (AdA 58 Ad) yX11_close cX11_close 4 (some .int) 3 [.ref (Ad 0), .int p1] σ (o.1, (some (.int o.2))) := by
  refine CT.of mf_X11_close (wX_D hA) (Nat.le_of_ble_eq_true rfl) ?_
  intro E xl g
  have ho : ((o.1, (some (.int o.2))) : St × Option Value) = (o.1, (some (.int o.2))) := rfl
  unfold f_X11_close at hf
  show XJ E (wX cy Ad σ) 0 [(0, .ref (Ad 0)), (1, .int p1)] []
  refine x_aload_n g 0 dX11_close_0 rfl rfl ?_
  refine x_get g fl_X11_26 wx_0 rfl dX11_close_1 ?_
  refine x_iload_n g 1 dX11_close_4 rfl rfl ?_
  obtain ⟨r1, hgr1, hf⟩ := obind hf
  refine onR_sp hf (fun e hf => ?_) (fun j2 h_j2 e hf => ?_)
  · rw [e] at hgr1
    refine x_callV (r := (RX3, TX3, 1)) g xl [.int p1] [] [.null] (c_X3_find hA hgr1) mf_X3_find im_X3_find se_X3_find ml_X11_157 rfl wx_12 (by decide) (by decide) rfl (Nat.le_of_ble_eq_true rfl) dX11_close_5 rfl rfl ?_
    refine x_astore_nN (lv' := [(2, .null), (0, .ref (Ad 0)), (1, .int p1)]) g dX11_close_8 rfl (by decide) rfl ?_
    refine x_aload_nN g 0 dX11_close_9 rfl rfl ?_
    refine x_ifnonnullN g dX11_close_10 ?_
    refine x_bipush g (-101) dX11_close_13 (by decide) ?_
    cases hf
    exact x_iret g rfl ho dX11_close_15
  · rw [e] at hgr1
    refine x_callV (r := (RX3, TX3, 1)) g xl [.int p1] [] [.ref (Ad (14 + 3 * j2))] (c_X3_find hA hgr1) mf_X3_find im_X3_find se_X3_find ml_X11_157 rfl wx_12 (by decide) (by decide) rfl (Nat.le_of_ble_eq_true rfl) dX11_close_5 rfl rfl ?_
    refine x_astore_n (lv' := [(2, .ref (Ad (14 + 3 * j2))), (0, .ref (Ad 0)), (1, .int p1)]) g dX11_close_8 rfl (by decide) rfl ?_
    refine x_aload_n g 0 dX11_close_9 rfl rfl ?_
    refine x_ifnonnull g 16 dX11_close_10 (by decide) ?_
    refine x_aload_n g 1 dX11_close_16 rfl rfl ?_
    refine x_get g fl_X11_26 wx_0 rfl dX11_close_17 ?_
    refine x_aload_n g 0 dX11_close_20 rfl rfl ?_
    refine x_get g fl_X11_181 (wx_C h_j2) rfl dX11_close_21 ?_
    obtain ⟨r3, hgr3, hf⟩ := obind hf
    refine onR_sp hf (fun e hf => ?_) (fun j4 h_j4 e hf => ?_)
    · rw [e] at hgr3
      refine x_callV (r := (RX3, TX3, 1)) g xl [.int (σ.1 2 j2 7)] [] [.null] (c_X3_find hA hgr3) mf_X3_find im_X3_find se_X3_find ml_X11_157 rfl wx_12 (by decide) (by decide) rfl (Nat.le_of_ble_eq_true rfl) dX11_close_24 rfl rfl ?_
      refine x_astore_nN (lv' := [(3, .null), (2, .ref (Ad (14 + 3 * j2))), (0, .ref (Ad 0)), (1, .int p1)]) g dX11_close_27 rfl (by decide) rfl ?_
      refine x_aload_n g 1 dX11_close_28 rfl rfl ?_
      obtain ⟨r5, hgr5, hf⟩ := obind hf
      refine x_callV (r := (RX2, TX2, 18)) g xl [] [] [.int r5] (c_X2_lettersUnderWay hA h_j2 hgr5) mf_X2_lettersUnderWay im_X2_lettersUnderWay se_X2_lettersUnderWay ml_X11_191 rfl (wx_C h_j2) (by decide) (by decide) rfl (Nat.le_of_ble_eq_true rfl) dX11_close_29 rfl rfl ?_
      refine x_if_gt g 46 dX11_close_32 (by decide) hf (fun c32 hf => ?_) (fun c32 hf => ?_)
      · refine x_aload_nN g 0 dX11_close_35 rfl rfl ?_
        refine x_ifnullN g 49 dX11_close_36 (by decide) ?_
        refine x_aload_nN g 0 dX11_close_49 rfl rfl ?_
        refine x_ifnullN g 58 dX11_close_50 (by decide) ?_
        refine x_aload_n g 2 dX11_close_58 rfl rfl ?_
        refine x_get g fl_X11_19 wx_0 rfl dX11_close_59 ?_
        refine x_aload_n g 1 dX11_close_62 rfl rfl ?_
        refine x_iconst g (-1) dX11_close_63 (by decide) ?_
        obtain ⟨σ7, hgr6, hf⟩ := obind hf
        refine x_callV (r := (RX1, TX1, 6)) g xl [.ref (Ad (14 + 3 * j2)), .int (-1)] [] [] (c_X1_mark hA h_j2 hgr6) mf_X1_mark im_X1_mark se_X1_mark ml_X11_194 rfl wx_6 (by decide) (by decide) rfl (Nat.le_of_ble_eq_true rfl) dX11_close_64 rfl rfl ?_
        refine x_aload_n g 1 dX11_close_67 rfl rfl ?_
        refine x_iconst g 0 dX11_close_68 (by decide) ?_
        refine x_putB g tyX2 fl_X11_207 tyX2_ok nmX2 (wx_C h_j2) rfl rfl rfl (Nat.le_of_ble_eq_true rfl) (sx_C_1 h_j2 _) dX11_close_69 hf (fun σ8 hf => ?_)
        refine x_aload_n g 1 dX11_close_72 rfl rfl ?_
        refine x_get g fl_X11_210 (wx_C h_j2) rfl dX11_close_73 ?_
        cases hf
        exact x_iret g rfl ho dX11_close_76
      · refine x_bipush g (-103) dX11_close_46 (by decide) ?_
        cases hf
        exact x_iret g rfl ho dX11_close_48
    · rw [e] at hgr3
      refine x_callV (r := (RX3, TX3, 1)) g xl [.int (σ.1 2 j2 7)] [] [.ref (Ad (14 + 3 * j4))] (c_X3_find hA hgr3) mf_X3_find im_X3_find se_X3_find ml_X11_157 rfl wx_12 (by decide) (by decide) rfl (Nat.le_of_ble_eq_true rfl) dX11_close_24 rfl rfl ?_
      refine x_astore_n (lv' := [(3, .ref (Ad (14 + 3 * j4))), (2, .ref (Ad (14 + 3 * j2))), (0, .ref (Ad 0)), (1, .int p1)]) g dX11_close_27 rfl (by decide) rfl ?_
      refine x_aload_n g 1 dX11_close_28 rfl rfl ?_
      obtain ⟨r9, hgr9, hf⟩ := obind hf
      refine x_callV (r := (RX2, TX2, 18)) g xl [] [] [.int r9] (c_X2_lettersUnderWay hA h_j2 hgr9) mf_X2_lettersUnderWay im_X2_lettersUnderWay se_X2_lettersUnderWay ml_X11_191 rfl (wx_C h_j2) (by decide) (by decide) rfl (Nat.le_of_ble_eq_true rfl) dX11_close_29 rfl rfl ?_
      refine x_if_gt g 46 dX11_close_32 (by decide) hf (fun c32 hf => ?_) (fun c32 hf => ?_)
      · refine x_aload_n g 0 dX11_close_35 rfl rfl ?_
        refine x_ifnull g dX11_close_36 ?_
        refine x_aload_n g 0 dX11_close_39 rfl rfl ?_
        obtain ⟨r10, hgr10, hf⟩ := obind hf
        refine x_callV (r := (RX2, TX2, 18)) g xl [] [] [.int r10] (c_X2_lettersUnderWay hA h_j4 hgr10) mf_X2_lettersUnderWay im_X2_lettersUnderWay se_X2_lettersUnderWay ml_X11_191 rfl (wx_C h_j4) (by decide) (by decide) rfl (Nat.le_of_ble_eq_true rfl) dX11_close_40 rfl rfl ?_
        refine x_if_le g 49 dX11_close_43 (by decide) hf (fun c43 hf => ?_) (fun c43 hf => ?_)
        · refine x_bipush g (-103) dX11_close_46 (by decide) ?_
          cases hf
          exact x_iret g rfl ho dX11_close_48
        · refine x_aload_n g 0 dX11_close_49 rfl rfl ?_
          refine x_ifnull g dX11_close_50 ?_
          refine x_aload_n g 0 dX11_close_53 rfl rfl ?_
          refine x_iconst g (-1) dX11_close_54 (by decide) ?_
          refine x_putB g tyX2 fl_X11_181 tyX2_ok nmX2 (wx_C h_j4) rfl rfl rfl (Nat.le_of_ble_eq_true rfl) (sx_C_7 h_j4 _) dX11_close_55 hf (fun σ11 hf => ?_)
          refine x_aload_n g 2 dX11_close_58 rfl rfl ?_
          refine x_get g fl_X11_19 wx_0 rfl dX11_close_59 ?_
          refine x_aload_n g 1 dX11_close_62 rfl rfl ?_
          refine x_iconst g (-1) dX11_close_63 (by decide) ?_
          obtain ⟨σ13, hgr12, hf⟩ := obind hf
          refine x_callV (r := (RX1, TX1, 6)) g xl [.ref (Ad (14 + 3 * j2)), .int (-1)] [] [] (c_X1_mark hA h_j2 hgr12) mf_X1_mark im_X1_mark se_X1_mark ml_X11_194 rfl wx_6 (by decide) (by decide) rfl (Nat.le_of_ble_eq_true rfl) dX11_close_64 rfl rfl ?_
          refine x_aload_n g 1 dX11_close_67 rfl rfl ?_
          refine x_iconst g 0 dX11_close_68 (by decide) ?_
          refine x_putB g tyX2 fl_X11_207 tyX2_ok nmX2 (wx_C h_j2) rfl rfl rfl (Nat.le_of_ble_eq_true rfl) (sx_C_1 h_j2 _) dX11_close_69 hf (fun σ14 hf => ?_)
          refine x_aload_n g 1 dX11_close_72 rfl rfl ?_
          refine x_get g fl_X11_210 (wx_C h_j2) rfl dX11_close_73 ?_
          cases hf
          exact x_iret g rfl ho dX11_close_76
      · refine x_bipush g (-103) dX11_close_46 (by decide) ?_
        cases hf
        exact x_iret g rfl ho dX11_close_48
/-! SlotChip.feed(II)I -/
def f_X11_feed (σ : St) (p1 : Int32) (p2 : Int32) : Option (St × Int32) :=
  (f_X3_find σ p1).bind fun r1 =>
  onR 8 r1
    (some (σ, (-101)))
    (fun j2 =>
      if 1 ≤ p2 then
        (if 99 < p2 then
          some (σ, (-102))
        else
          (if 99 < ((σ.1 2 j2 8) + p2) then
            some (σ, (-104))
          else
            (bnd (si σ 2 j2 8 ((σ.1 2 j2 8) + p2)) fun σ3 =>
            some (σ3, (σ3.1 2 j2 8)))))
      else
        some (σ, (-102)))
set_option maxHeartbeats 4000000 in
set_option maxRecDepth 100000 in
theorem c_X11_feed {l : Launch} {D : va_G} {cy : Nat → ClassId} {Ad : Nat → Nat} (hA : AdOK 58 Ad) {σ : St} {p1 : Int32} {p2 : Int32} {o : (St × Int32)} (hf : f_X11_feed σ p1 p2 = some o) : CT l (wX cy Ad) D cy (AdA 58 Ad) yX11_feed cX11_feed 4 (some .int) 1 [.ref (Ad 0), .int p1, .int p2] σ (o.1, (some (.int o.2))) := by
  refine CT.of mf_X11_feed (wX_D hA) (Nat.le_of_ble_eq_true rfl) ?_
  intro E xl g
  have ho : ((o.1, (some (.int o.2))) : St × Option Value) = (o.1, (some (.int o.2))) := rfl
  unfold f_X11_feed at hf
  show XJ E (wX cy Ad σ) 0 [(0, .ref (Ad 0)), (1, .int p1), (2, .int p2)] []
  refine x_aload_n g 0 dX11_feed_0 rfl rfl ?_
  refine x_get g fl_X11_26 wx_0 rfl dX11_feed_1 ?_
  refine x_iload_n g 1 dX11_feed_4 rfl rfl ?_
  obtain ⟨r1, hgr1, hf⟩ := obind hf
  refine onR_sp hf (fun e hf => ?_) (fun j2 h_j2 e hf => ?_)
  · rw [e] at hgr1
    refine x_callV (r := (RX3, TX3, 1)) g xl [.int p1] [] [.null] (c_X3_find hA hgr1) mf_X3_find im_X3_find se_X3_find ml_X11_157 rfl wx_12 (by decide) (by decide) rfl (Nat.le_of_ble_eq_true rfl) dX11_feed_5 rfl rfl ?_
    refine x_astore_nN (lv' := [(3, .null), (0, .ref (Ad 0)), (1, .int p1), (2, .int p2)]) g dX11_feed_8 rfl (by decide) rfl ?_
    refine x_aload_nN g 0 dX11_feed_9 rfl rfl ?_
    refine x_ifnonnullN g dX11_feed_10 ?_
    refine x_bipush g (-101) dX11_feed_13 (by decide) ?_
    cases hf
    exact x_iret g rfl ho dX11_feed_15
  · rw [e] at hgr1
    refine x_callV (r := (RX3, TX3, 1)) g xl [.int p1] [] [.ref (Ad (14 + 3 * j2))] (c_X3_find hA hgr1) mf_X3_find im_X3_find se_X3_find ml_X11_157 rfl wx_12 (by decide) (by decide) rfl (Nat.le_of_ble_eq_true rfl) dX11_feed_5 rfl rfl ?_
    refine x_astore_n (lv' := [(3, .ref (Ad (14 + 3 * j2))), (0, .ref (Ad 0)), (1, .int p1), (2, .int p2)]) g dX11_feed_8 rfl (by decide) rfl ?_
    refine x_aload_n g 0 dX11_feed_9 rfl rfl ?_
    refine x_ifnonnull g 16 dX11_feed_10 (by decide) ?_
    refine x_iload_n g 3 dX11_feed_16 rfl rfl ?_
    refine x_iconst g 1 dX11_feed_17 (by decide) ?_
    refine x_icmp_lt g 27 dX11_feed_18 (by decide) hf (fun c18 hf => ?_) (fun c18 hf => ?_)
    · refine x_iload_n g 3 dX11_feed_21 rfl rfl ?_
      refine x_bipush g 99 dX11_feed_22 (by decide) ?_
      refine x_icmp_le g 30 dX11_feed_24 (by decide) hf (fun c24 hf => ?_) (fun c24 hf => ?_)
      · refine x_bipush g (-102) dX11_feed_27 (by decide) ?_
        cases hf
        exact x_iret g rfl ho dX11_feed_29
      · refine x_aload_n g 0 dX11_feed_30 rfl rfl ?_
        refine x_get g fl_X11_210 (wx_C h_j2) rfl dX11_feed_31 ?_
        refine x_iload_n g 3 dX11_feed_34 rfl rfl ?_
        refine x_iadd g dX11_feed_35 ?_
        refine x_bipush g 99 dX11_feed_36 (by decide) ?_
        refine x_icmp_le g 44 dX11_feed_38 (by decide) hf (fun c38 hf => ?_) (fun c38 hf => ?_)
        · refine x_bipush g (-104) dX11_feed_41 (by decide) ?_
          cases hf
          exact x_iret g rfl ho dX11_feed_43
        · refine x_aload_n g 0 dX11_feed_44 rfl rfl ?_
          refine x_dup g dX11_feed_45 rfl ?_
          refine x_get g fl_X11_210 (wx_C h_j2) rfl dX11_feed_46 ?_
          refine x_iload_n g 3 dX11_feed_49 rfl rfl ?_
          refine x_iadd g dX11_feed_50 ?_
          refine x_putB g tyX2 fl_X11_210 tyX2_ok nmX2 (wx_C h_j2) rfl rfl rfl (Nat.le_of_ble_eq_true rfl) (sx_C_8 h_j2 _) dX11_feed_51 hf (fun σ3 hf => ?_)
          refine x_aload_n g 0 dX11_feed_54 rfl rfl ?_
          refine x_get g fl_X11_210 (wx_C h_j2) rfl dX11_feed_55 ?_
          cases hf
          exact x_iret g rfl ho dX11_feed_58
    · refine x_bipush g (-102) dX11_feed_27 (by decide) ?_
      cases hf
      exact x_iret g rfl ho dX11_feed_29
/-! SlotChip.take(II)I -/
def f_X11_take (σ : St) (p1 : Int32) (p2 : Int32) : Option (St × Int32) :=
  (f_X3_find σ p1).bind fun r1 =>
  onR 8 r1
    (some (σ, (-101)))
    (fun j2 =>
      if 1 ≤ p2 then
        (if 99 < p2 then
          some (σ, (-102))
        else
          (if (σ.1 2 j2 9) < p2 then
            some (σ, (-103))
          else
            (bnd (si σ 2 j2 9 ((σ.1 2 j2 9) - p2)) fun σ3 =>
            bnd (si σ3 2 j2 10 ((σ3.1 2 j2 10) + p2)) fun σ4 =>
            some (σ4, (σ4.1 2 j2 9)))))
      else
        some (σ, (-102)))
set_option maxHeartbeats 4000000 in
set_option maxRecDepth 100000 in
theorem c_X11_take {l : Launch} {D : va_G} {cy : Nat → ClassId} {Ad : Nat → Nat} (hA : AdOK 58 Ad) {σ : St} {p1 : Int32} {p2 : Int32} {o : (St × Int32)} (hf : f_X11_take σ p1 p2 = some o) : CT l (wX cy Ad) D cy (AdA 58 Ad) yX11_take cX11_take 4 (some .int) 1 [.ref (Ad 0), .int p1, .int p2] σ (o.1, (some (.int o.2))) := by
  refine CT.of mf_X11_take (wX_D hA) (Nat.le_of_ble_eq_true rfl) ?_
  intro E xl g
  have ho : ((o.1, (some (.int o.2))) : St × Option Value) = (o.1, (some (.int o.2))) := rfl
  unfold f_X11_take at hf
  show XJ E (wX cy Ad σ) 0 [(0, .ref (Ad 0)), (1, .int p1), (2, .int p2)] []
  refine x_aload_n g 0 dX11_take_0 rfl rfl ?_
  refine x_get g fl_X11_26 wx_0 rfl dX11_take_1 ?_
  refine x_iload_n g 1 dX11_take_4 rfl rfl ?_
  obtain ⟨r1, hgr1, hf⟩ := obind hf
  refine onR_sp hf (fun e hf => ?_) (fun j2 h_j2 e hf => ?_)
  · rw [e] at hgr1
    refine x_callV (r := (RX3, TX3, 1)) g xl [.int p1] [] [.null] (c_X3_find hA hgr1) mf_X3_find im_X3_find se_X3_find ml_X11_157 rfl wx_12 (by decide) (by decide) rfl (Nat.le_of_ble_eq_true rfl) dX11_take_5 rfl rfl ?_
    refine x_astore_nN (lv' := [(3, .null), (0, .ref (Ad 0)), (1, .int p1), (2, .int p2)]) g dX11_take_8 rfl (by decide) rfl ?_
    refine x_aload_nN g 0 dX11_take_9 rfl rfl ?_
    refine x_ifnonnullN g dX11_take_10 ?_
    refine x_bipush g (-101) dX11_take_13 (by decide) ?_
    cases hf
    exact x_iret g rfl ho dX11_take_15
  · rw [e] at hgr1
    refine x_callV (r := (RX3, TX3, 1)) g xl [.int p1] [] [.ref (Ad (14 + 3 * j2))] (c_X3_find hA hgr1) mf_X3_find im_X3_find se_X3_find ml_X11_157 rfl wx_12 (by decide) (by decide) rfl (Nat.le_of_ble_eq_true rfl) dX11_take_5 rfl rfl ?_
    refine x_astore_n (lv' := [(3, .ref (Ad (14 + 3 * j2))), (0, .ref (Ad 0)), (1, .int p1), (2, .int p2)]) g dX11_take_8 rfl (by decide) rfl ?_
    refine x_aload_n g 0 dX11_take_9 rfl rfl ?_
    refine x_ifnonnull g 16 dX11_take_10 (by decide) ?_
    refine x_iload_n g 3 dX11_take_16 rfl rfl ?_
    refine x_iconst g 1 dX11_take_17 (by decide) ?_
    refine x_icmp_lt g 27 dX11_take_18 (by decide) hf (fun c18 hf => ?_) (fun c18 hf => ?_)
    · refine x_iload_n g 3 dX11_take_21 rfl rfl ?_
      refine x_bipush g 99 dX11_take_22 (by decide) ?_
      refine x_icmp_le g 30 dX11_take_24 (by decide) hf (fun c24 hf => ?_) (fun c24 hf => ?_)
      · refine x_bipush g (-102) dX11_take_27 (by decide) ?_
        cases hf
        exact x_iret g rfl ho dX11_take_29
      · refine x_iload_n g 3 dX11_take_30 rfl rfl ?_
        refine x_aload_n g 0 dX11_take_31 rfl rfl ?_
        refine x_get g fl_X11_213 (wx_C h_j2) rfl dX11_take_32 ?_
        refine x_icmp_le g 41 dX11_take_35 (by decide) hf (fun c35 hf => ?_) (fun c35 hf => ?_)
        · refine x_bipush g (-103) dX11_take_38 (by decide) ?_
          cases hf
          exact x_iret g rfl ho dX11_take_40
        · refine x_aload_n g 0 dX11_take_41 rfl rfl ?_
          refine x_dup g dX11_take_42 rfl ?_
          refine x_get g fl_X11_213 (wx_C h_j2) rfl dX11_take_43 ?_
          refine x_iload_n g 3 dX11_take_46 rfl rfl ?_
          refine x_isub g dX11_take_47 ?_
          refine x_putB g tyX2 fl_X11_213 tyX2_ok nmX2 (wx_C h_j2) rfl rfl rfl (Nat.le_of_ble_eq_true rfl) (sx_C_9 h_j2 _) dX11_take_48 hf (fun σ3 hf => ?_)
          refine x_aload_n g 0 dX11_take_51 rfl rfl ?_
          refine x_dup g dX11_take_52 rfl ?_
          refine x_get g fl_X11_216 (wx_C h_j2) rfl dX11_take_53 ?_
          refine x_iload_n g 3 dX11_take_56 rfl rfl ?_
          refine x_iadd g dX11_take_57 ?_
          refine x_putB g tyX2 fl_X11_216 tyX2_ok nmX2 (wx_C h_j2) rfl rfl rfl (Nat.le_of_ble_eq_true rfl) (sx_C_10 h_j2 _) dX11_take_58 hf (fun σ4 hf => ?_)
          refine x_aload_n g 0 dX11_take_61 rfl rfl ?_
          refine x_get g fl_X11_213 (wx_C h_j2) rfl dX11_take_62 ?_
          cases hf
          exact x_iret g rfl ho dX11_take_65
    · refine x_bipush g (-102) dX11_take_27 (by decide) ?_
      cases hf
      exact x_iret g rfl ho dX11_take_29
/-! SlotChip$Circuit.isFasterThan(LSlotChip$Circuit;I)Z -/
def f_X2_isFasterThan (σ : St) (i : Nat) (p1 : Nat) (p2 : Int32) : Option Int32 :=
  bnd (Int32.toInt64 (if 1 < (p2 - (σ.1 2 i 14)) then (p2 - (σ.1 2 i 14)) else 1)) fun y1 =>
  bnd (Int32.toInt64 (if 1 < (p2 - (σ.1 2 p1 14)) then (p2 - (σ.1 2 p1 14)) else 1)) fun y2 =>
  if 0 < (lg_cmp ((Int32.toInt64 (σ.1 2 i 12)) * y2) ((Int32.toInt64 (σ.1 2 p1 12)) * y1)) then
    some 1
  else
    some 0
set_option maxHeartbeats 4000000 in
set_option maxRecDepth 100000 in
theorem c_X2_isFasterThan {l : Launch} {D : va_G} {cy : Nat → ClassId} {Ad : Nat → Nat} (hA : AdOK 58 Ad) {σ : St} {i : Nat} {p1 : Nat} {p2 : Int32} (h_i : i < 8) (h_p1 : p1 < 8) {o : Int32} (hf : f_X2_isFasterThan σ i p1 p2 = some o) : CT l (wX cy Ad) D cy (AdA 58 Ad) yX2_isFasterThan cX2_isFasterThan 7 (some .boolean) 1 [.ref (Ad (14 + 3 * i)), .ref (Ad (14 + 3 * p1)), .int p2] σ (σ, (some (.int o))) := by
  refine CT.of mf_X2_isFasterThan (wX_D hA) (Nat.le_of_ble_eq_true rfl) ?_
  intro E xl g
  have ho : ((σ, (some (.int o))) : St × Option Value) = (σ, (some (.int o))) := rfl
  unfold f_X2_isFasterThan at hf
  show XJ E (wX cy Ad σ) 0 [(0, .ref (Ad (14 + 3 * i))), (1, .ref (Ad (14 + 3 * p1))), (2, .int p2)] []
  refine x_iconst g 1 dX2_isFasterThan_0 (by decide) ?_
  refine x_iload_n g 2 dX2_isFasterThan_1 rfl rfl ?_
  refine x_aload_n g 0 dX2_isFasterThan_2 rfl rfl ?_
  refine x_get g fl_X2_41 (wx_C h_i) rfl dX2_isFasterThan_3 ?_
  refine x_isub g dX2_isFasterThan_6 ?_
  refine x_mmax g ml_X2_68 (by decide) (Nat.le_of_ble_eq_true rfl) dX2_isFasterThan_7 ?_
  refine x_i2l g dX2_isFasterThan_10 ?_
  refine x_naml hf (fun y1 hf => ?_)
  refine x_lstore_n (lv' := [(3, .long y1), (0, .ref (Ad (14 + 3 * i))), (1, .ref (Ad (14 + 3 * p1))), (2, .int p2)]) g dX2_isFasterThan_11 rfl (by decide) rfl ?_
  refine x_iconst g 1 dX2_isFasterThan_12 (by decide) ?_
  refine x_iload_n g 3 dX2_isFasterThan_13 rfl rfl ?_
  refine x_aload_n g 2 dX2_isFasterThan_14 rfl rfl ?_
  refine x_get g fl_X2_41 (wx_C h_p1) rfl dX2_isFasterThan_15 ?_
  refine x_isub g dX2_isFasterThan_18 ?_
  refine x_mmax g ml_X2_68 (by decide) (Nat.le_of_ble_eq_true rfl) dX2_isFasterThan_19 ?_
  refine x_i2l g dX2_isFasterThan_22 ?_
  refine x_naml hf (fun y2 hf => ?_)
  refine x_lstore (lv' := [(5, .long y2), (3, .long y1), (0, .ref (Ad (14 + 3 * i))), (1, .ref (Ad (14 + 3 * p1))), (2, .int p2)]) g dX2_isFasterThan_23 (by decide) rfl ?_
  refine x_aload_n g 2 dX2_isFasterThan_25 rfl rfl ?_
  refine x_get g fl_X2_59 (wx_C h_i) rfl dX2_isFasterThan_26 ?_
  refine x_i2l g dX2_isFasterThan_29 ?_
  refine x_lload g 0 dX2_isFasterThan_30 rfl ?_
  refine x_lmul g dX2_isFasterThan_32 ?_
  refine x_aload_n g 3 dX2_isFasterThan_33 rfl rfl ?_
  refine x_get g fl_X2_59 (wx_C h_p1) rfl dX2_isFasterThan_34 ?_
  refine x_i2l g dX2_isFasterThan_37 ?_
  refine x_lload_n g 1 dX2_isFasterThan_38 rfl rfl ?_
  refine x_lmul g dX2_isFasterThan_39 ?_
  refine x_lcmp g dX2_isFasterThan_40 ?_
  refine x_if_le g 48 dX2_isFasterThan_41 (by decide) hf (fun c41 hf => ?_) (fun c41 hf => ?_)
  · refine x_iconst g 1 dX2_isFasterThan_44 (by decide) ?_
    refine x_goto g 49 dX2_isFasterThan_45 (by decide) ?_
    cases hf
    exact x_zret g rfl (by decide) ho dX2_isFasterThan_49
  · refine x_iconst g 0 dX2_isFasterThan_48 (by decide) ?_
    cases hf
    exact x_zret g rfl (by decide) ho dX2_isFasterThan_49
/-! SlotChip$Circuits.fastestAt(I)I -/
def f_X3_fastestAt_L4b (σ : St) (v1 : Int32) (K4 : (Option Nat) → Int32 → Option Int32) (b2 : (Option Nat)) (v3 : Int32) : Option Int32 :=
  if v3 < 8 then
    ((f_X3_find σ v3).bind fun r1 =>
    onR 8 r1
      (K4 b2 (v3 + 1))
      (fun j2 =>
        onR 8 b2
          (K4 (some j2) (v3 + 1))
          (fun j3 =>
            (f_X2_isFasterThan σ j2 j3 v1).bind fun r4 =>
            if r4 = 0 then
              K4 (some j3) (v3 + 1)
            else
              K4 (some j2) (v3 + 1))))
  else
    (onR 8 b2
      (some (-1))
      (fun j5 =>
        some (σ.1 2 j5 0)))
def f_X3_fastestAt_L4 (σ : St) (v1 : Int32) : Nat → (Option Nat) → Int32 → Option Int32
  | 0 => fun _ _ => none
  | n + 1 => f_X3_fastestAt_L4b σ v1 (f_X3_fastestAt_L4 σ v1 n)
def f_X3_fastestAt (σ : St) (p1 : Int32) : Option Int32 :=
  f_X3_fastestAt_L4 σ p1 FU none 0
set_option maxHeartbeats 4000000 in
set_option maxRecDepth 100000 in
theorem l_X3_fastestAt_L4 {E : EV} {l : Launch} {D : va_G} {cy : Nat → ClassId} {Ad : Nat → Nat} {out : St × Option Value} {o : Int32} (hA : AdOK 58 Ad) (xl : XL E l D (AdA 58 Ad)) (g : XG E (wX cy Ad) cy cX3_fastestAt RX3 5 2 (some .int) out) (σ : St) (v1 : Int32) (ho : out = (σ, (some (.int o)))) : ∀ (n : Nat) (b2 : (Option Nat)) (v3 : Int32), f_X3_fastestAt_L4 σ v1 n b2 v3 = some o → XJ E (wX cy Ad σ) 4 [(0, .ref (Ad 12)), (1, .int v1), (2, vC Ad b2), (3, .int v3)] [] := by
  intro n
  induction n with
  | zero => intro _ _ hf; cases hf
  | succ n ih4 =>
    intro b2 v3 hf
    replace hf : f_X3_fastestAt_L4b σ v1 (f_X3_fastestAt_L4 σ v1 n) b2 v3 = some o := hf
    unfold f_X3_fastestAt_L4b at hf
    refine x_iload_n g 3 dX3_fastestAt_4 rfl rfl ?_
    refine x_bipush g 8 dX3_fastestAt_5 (by decide) ?_
    refine x_icmp_ge g 45 dX3_fastestAt_7 (by decide) hf (fun c7 hf => ?_) (fun c7 hf => ?_)
    · refine x_aload_n g 0 dX3_fastestAt_10 rfl rfl ?_
      refine x_iload_n g 3 dX3_fastestAt_11 rfl rfl ?_
      obtain ⟨r1, hgr1, hf⟩ := obind hf
      refine onR_sp hf (fun e hf => ?_) (fun j2 h_j2 e hf => ?_)
      · rw [e] at hgr1
        refine x_callV (r := (RX3, TX3, 1)) g xl [.int v3] [] [.null] (c_X3_find hA hgr1) mf_X3_find im_X3_find se_X3_find ml_X3_24 rfl wx_12 (by decide) (by decide) rfl (Nat.le_of_ble_eq_true rfl) dX3_fastestAt_12 rfl rfl ?_
        refine x_astoreN (lv' := [(4, .null), (0, .ref (Ad 12)), (1, .int v1), (2, vC Ad b2), (3, .int v3)]) g dX3_fastestAt_15 (by decide) (by cases b2 <;> rfl) ?_
        refine x_aloadN g 0 dX3_fastestAt_17 rfl ?_
        refine x_ifnullN g 39 dX3_fastestAt_19 (by decide) ?_
        refine x_iinc g 4 (v3 + 1) (lv' := [(3, .int (v3 + 1)), (4, .null), (0, .ref (Ad 12)), (1, .int v1), (2, vC Ad b2)]) dX3_fastestAt_39 rfl (by rfl) (by decide) (by cases b2 <;> rfl) ?_
        refine x_goto g 4 dX3_fastestAt_42 (by decide) ?_
        exact x_sub [2, 3, 4, 0] rfl (ih4 _ _ hf)
      · rw [e] at hgr1
        refine x_callV (r := (RX3, TX3, 1)) g xl [.int v3] [] [.ref (Ad (14 + 3 * j2))] (c_X3_find hA hgr1) mf_X3_find im_X3_find se_X3_find ml_X3_24 rfl wx_12 (by decide) (by decide) rfl (Nat.le_of_ble_eq_true rfl) dX3_fastestAt_12 rfl rfl ?_
        refine x_astore (lv' := [(4, .ref (Ad (14 + 3 * j2))), (0, .ref (Ad 12)), (1, .int v1), (2, vC Ad b2), (3, .int v3)]) g dX3_fastestAt_15 (by decide) (by cases b2 <;> rfl) ?_
        refine x_aload g 0 dX3_fastestAt_17 rfl ?_
        refine x_ifnull g dX3_fastestAt_19 ?_
        refine onR_sp hf (fun e hf => ?_) (fun j3 h_j3 e hf => ?_)
        · rw [e]
          show XJ E (wX cy Ad σ) 22 [(4, .ref (Ad (14 + 3 * j2))), (0, .ref (Ad 12)), (1, .int v1), (2, .null), (3, .int v3)] []
          refine x_aload_nN g 3 dX3_fastestAt_22 rfl rfl ?_
          refine x_ifnullN g 36 dX3_fastestAt_23 (by decide) ?_
          refine x_aload g 0 dX3_fastestAt_36 rfl ?_
          refine x_astore_n (lv' := [(2, .ref (Ad (14 + 3 * j2))), (4, .ref (Ad (14 + 3 * j2))), (0, .ref (Ad 12)), (1, .int v1), (3, .int v3)]) g dX3_fastestAt_38 rfl (by decide) rfl ?_
          refine x_iinc g 4 (v3 + 1) (lv' := [(3, .int (v3 + 1)), (2, .ref (Ad (14 + 3 * j2))), (4, .ref (Ad (14 + 3 * j2))), (0, .ref (Ad 12)), (1, .int v1)]) dX3_fastestAt_39 rfl (by rfl) (by decide) rfl ?_
          refine x_goto g 4 dX3_fastestAt_42 (by decide) ?_
          exact x_sub [3, 4, 1, 0] rfl (ih4 _ _ hf)
        · rw [e]
          show XJ E (wX cy Ad σ) 22 [(4, .ref (Ad (14 + 3 * j2))), (0, .ref (Ad 12)), (1, .int v1), (2, .ref (Ad (14 + 3 * j3))), (3, .int v3)] []
          refine x_aload_n g 3 dX3_fastestAt_22 rfl rfl ?_
          refine x_ifnull g dX3_fastestAt_23 ?_
          refine x_aload g 0 dX3_fastestAt_26 rfl ?_
          refine x_aload_n g 3 dX3_fastestAt_28 rfl rfl ?_
          refine x_iload_n g 2 dX3_fastestAt_29 rfl rfl ?_
          obtain ⟨r4, hgr4, hf⟩ := obind hf
          refine x_callV (r := (RX2, TX2, 18)) g xl [.ref (Ad (14 + 3 * j3)), .int v1] [] [.int r4] (c_X2_isFasterThan hA h_j2 h_j3 hgr4) mf_X2_isFasterThan im_X2_isFasterThan se_X2_isFasterThan ml_X3_28 rfl (wx_C h_j2) (by decide) (by decide) rfl (Nat.le_of_ble_eq_true rfl) dX3_fastestAt_30 rfl rfl ?_
          refine x_if_eq g 39 dX3_fastestAt_33 (by decide) hf (fun c33 hf => ?_) (fun c33 hf => ?_)
          · refine x_iinc g 4 (v3 + 1) (lv' := [(3, .int (v3 + 1)), (4, .ref (Ad (14 + 3 * j2))), (0, .ref (Ad 12)), (1, .int v1), (2, .ref (Ad (14 + 3 * j3)))]) dX3_fastestAt_39 rfl (by rfl) (by decide) rfl ?_
            refine x_goto g 4 dX3_fastestAt_42 (by decide) ?_
            exact x_sub [2, 3, 4, 0] rfl (ih4 _ _ hf)
          · refine x_aload g 0 dX3_fastestAt_36 rfl ?_
            refine x_astore_n (lv' := [(2, .ref (Ad (14 + 3 * j2))), (4, .ref (Ad (14 + 3 * j2))), (0, .ref (Ad 12)), (1, .int v1), (3, .int v3)]) g dX3_fastestAt_38 rfl (by decide) rfl ?_
            refine x_iinc g 4 (v3 + 1) (lv' := [(3, .int (v3 + 1)), (2, .ref (Ad (14 + 3 * j2))), (4, .ref (Ad (14 + 3 * j2))), (0, .ref (Ad 12)), (1, .int v1)]) dX3_fastestAt_39 rfl (by rfl) (by decide) rfl ?_
            refine x_goto g 4 dX3_fastestAt_42 (by decide) ?_
            exact x_sub [3, 4, 1, 0] rfl (ih4 _ _ hf)
    · refine onR_sp hf (fun e hf => ?_) (fun j5 h_j5 e hf => ?_)
      · rw [e]
        show XJ E (wX cy Ad σ) 45 [(0, .ref (Ad 12)), (1, .int v1), (2, .null), (3, .int v3)] []
        refine x_aload_nN g 2 dX3_fastestAt_45 rfl rfl ?_
        refine x_ifnonnullN g dX3_fastestAt_46 ?_
        refine x_iconst g (-1) dX3_fastestAt_49 (by decide) ?_
        refine x_goto g 57 dX3_fastestAt_50 (by decide) ?_
        cases hf
        exact x_iret g rfl ho dX3_fastestAt_57
      · rw [e]
        show XJ E (wX cy Ad σ) 45 [(0, .ref (Ad 12)), (1, .int v1), (2, .ref (Ad (14 + 3 * j5))), (3, .int v3)] []
        refine x_aload_n g 2 dX3_fastestAt_45 rfl rfl ?_
        refine x_ifnonnull g 53 dX3_fastestAt_46 (by decide) ?_
        refine x_aload_n g 2 dX3_fastestAt_53 rfl rfl ?_
        refine x_get g fl_X3_32 (wx_C h_j5) rfl dX3_fastestAt_54 ?_
        cases hf
        exact x_iret g rfl ho dX3_fastestAt_57
set_option maxHeartbeats 4000000 in
set_option maxRecDepth 100000 in
theorem c_X3_fastestAt {l : Launch} {D : va_G} {cy : Nat → ClassId} {Ad : Nat → Nat} (hA : AdOK 58 Ad) {σ : St} {p1 : Int32} {o : Int32} (hf : f_X3_fastestAt σ p1 = some o) : CT l (wX cy Ad) D cy (AdA 58 Ad) yX3_fastestAt cX3_fastestAt 5 (some .int) 2 [.ref (Ad 12), .int p1] σ (σ, (some (.int o))) := by
  refine CT.of mf_X3_fastestAt (wX_D hA) (Nat.le_of_ble_eq_true rfl) ?_
  intro E xl g
  have ho : ((σ, (some (.int o))) : St × Option Value) = (σ, (some (.int o))) := rfl
  unfold f_X3_fastestAt at hf
  show XJ E (wX cy Ad σ) 0 [(0, .ref (Ad 12)), (1, .int p1)] []
  refine x_null g dX3_fastestAt_0 ?_
  refine x_astore_nN (lv' := [(2, .null), (0, .ref (Ad 12)), (1, .int p1)]) g dX3_fastestAt_1 rfl (by decide) rfl ?_
  refine x_iconst g 0 dX3_fastestAt_2 (by decide) ?_
  refine x_istore_n (lv' := [(3, .int 0), (2, .null), (0, .ref (Ad 12)), (1, .int p1)]) g dX3_fastestAt_3 rfl (by decide) rfl ?_
  exact x_sub [2, 3, 1, 0] rfl (l_X3_fastestAt_L4 hA xl g _ _ ho FU _ _ hf)
/-! SlotChip.fastest()I -/
def f_X11_fastest (σ : St) : Option Int32 :=
  (f_X3_fastestAt σ (σ.1 1 0 2)).bind fun r1 =>
  some r1
set_option maxHeartbeats 4000000 in
set_option maxRecDepth 100000 in
theorem c_X11_fastest {l : Launch} {D : va_G} {cy : Nat → ClassId} {Ad : Nat → Nat} (hA : AdOK 58 Ad) {σ : St} {o : Int32} (hf : f_X11_fastest σ = some o) : CT l (wX cy Ad) D cy (AdA 58 Ad) yX11_fastest cX11_fastest 1 (some .int) 3 [.ref (Ad 0)] σ (σ, (some (.int o))) := by
  refine CT.of mf_X11_fastest (wX_D hA) (Nat.le_of_ble_eq_true rfl) ?_
  intro E xl g
  have ho : ((σ, (some (.int o))) : St × Option Value) = (σ, (some (.int o))) := rfl
  unfold f_X11_fastest at hf
  show XJ E (wX cy Ad σ) 0 [(0, .ref (Ad 0))] []
  refine x_aload_n g 0 dX11_fastest_0 rfl rfl ?_
  refine x_get g fl_X11_26 wx_0 rfl dX11_fastest_1 ?_
  refine x_aload_n g 0 dX11_fastest_4 rfl rfl ?_
  refine x_get g fl_X11_19 wx_0 rfl dX11_fastest_5 ?_
  refine x_get g fl_X11_142 wx_6 rfl dX11_fastest_8 ?_
  obtain ⟨r1, hgr1, hf⟩ := obind hf
  refine x_callV (r := (RX3, TX3, 1)) g xl [.int (σ.1 1 0 2)] [] [.int r1] (c_X3_fastestAt hA hgr1) mf_X3_fastestAt im_X3_fastestAt se_X3_fastestAt ml_X11_219 rfl wx_12 (by decide) (by decide) rfl (Nat.le_of_ble_eq_true rfl) dX11_fastest_11 rfl rfl ?_
  cases hf
  exact x_iret g rfl ho dX11_fastest_14
/-! SlotChip$Stray.set(IIZI)V -/
def f_X8_set (σ : St) (i : Nat) (p1 : Int32) (p2 : Int32) (p3 : Int32) (p4 : Int32) : Option St :=
  bnd (si σ 7 i 3 p1) fun σ1 =>
  bnd (si σ1 7 i 4 p2) fun σ2 =>
  chk (isZ p3) (
    bnd (si σ2 7 i 0 p3) fun σ3 =>
    bnd (si σ3 7 i 1 0) fun σ4 =>
    bnd (si σ4 7 i 5 (-1)) fun σ5 =>
    bnd (si σ5 7 i 6 p4) fun σ6 =>
    some σ6)
set_option maxHeartbeats 4000000 in
set_option maxRecDepth 100000 in
theorem c_X8_set {l : Launch} {D : va_G} {cy : Nat → ClassId} {Ad : Nat → Nat} (hA : AdOK 58 Ad) {σ : St} {i : Nat} {p1 : Int32} {p2 : Int32} {p3 : Int32} {p4 : Int32} (h_i : i < 12) {o : St} (hf : f_X8_set σ i p1 p2 p3 p4 = some o) : CT l (wX cy Ad) D cy (AdA 58 Ad) yX8_set cX8_set 5 none 0 [.ref (Ad (45 + i)), .int p1, .int p2, .int p3, .int p4] σ (o, none) := by
  refine CT.of mf_X8_set (wX_D hA) (Nat.le_of_ble_eq_true rfl) ?_
  intro E xl g
  have ho : ((o, none) : St × Option Value) = (o, none) := rfl
  unfold f_X8_set at hf
  show XJ E (wX cy Ad σ) 0 [(0, .ref (Ad (45 + i))), (1, .int p1), (2, .int p2), (3, .int p3), (4, .int p4)] []
  refine x_aload_n g 0 dX8_set_0 rfl rfl ?_
  refine x_iload_n g 1 dX8_set_1 rfl rfl ?_
  refine x_putB g tyX8 fl_X8_9 tyX8_ok nmX8 (wx_S h_i) rfl rfl rfl (Nat.le_of_ble_eq_true rfl) (sx_S_3 h_i _) dX8_set_2 hf (fun σ1 hf => ?_)
  refine x_aload_n g 0 dX8_set_5 rfl rfl ?_
  refine x_iload_n g 2 dX8_set_6 rfl rfl ?_
  refine x_putB g tyX8 fl_X8_15 tyX8_ok nmX8 (wx_S h_i) rfl rfl rfl (Nat.le_of_ble_eq_true rfl) (sx_S_4 h_i _) dX8_set_7 hf (fun σ2 hf => ?_)
  refine x_aload_n g 0 dX8_set_10 rfl rfl ?_
  refine x_iload_n g 3 dX8_set_11 rfl rfl ?_
  have hb := (chk_some hf).1
  replace hf := (chk_some hf).2
  refine x_putB g tyX8 fl_X8_18 tyX8_ok nmX8 (wx_S h_i) rfl (isZ_n hb) (isZ_f hb) (Nat.le_of_ble_eq_true rfl) (sx_S_0 h_i _) dX8_set_12 hf (fun σ3 hf => ?_)
  refine x_aload_n g 0 dX8_set_15 rfl rfl ?_
  refine x_iconst g 0 dX8_set_16 (by decide) ?_
  refine x_putB g tyX8 fl_X8_22 tyX8_ok nmX8 (wx_S h_i) rfl rfl rfl (Nat.le_of_ble_eq_true rfl) (sx_S_1 h_i _) dX8_set_17 hf (fun σ4 hf => ?_)
  refine x_aload_n g 0 dX8_set_20 rfl rfl ?_
  refine x_iconst g (-1) dX8_set_21 (by decide) ?_
  refine x_putB g tyX8 fl_X8_25 tyX8_ok nmX8 (wx_S h_i) rfl rfl rfl (Nat.le_of_ble_eq_true rfl) (sx_S_5 h_i _) dX8_set_22 hf (fun σ5 hf => ?_)
  refine x_aload_n g 0 dX8_set_25 rfl rfl ?_
  refine x_iload g 4 dX8_set_26 rfl ?_
  refine x_putB g tyX8 fl_X8_28 tyX8_ok nmX8 (wx_S h_i) rfl rfl rfl (Nat.le_of_ble_eq_true rfl) (sx_S_6 h_i _) dX8_set_28 hf (fun σ6 hf => ?_)
  cases hf
  exact x_vret g rfl ho dX8_set_31
/-! SlotChip$Strays.add(IIZ)Z -/
def f_X9_add (σ : St) (p1 : Int32) (p2 : Int32) (p3 : Int32) : Option (St × Int32) :=
  if 0 ≤ (σ.1 8 0 0) then
    (if 12 ≤ (σ.1 8 0 0) then
      some (σ, 0)
    else
      (chk (inb (σ.1 8 0 0) 12) (chk ((σ.2.1 (Int32.toNatClampNeg (σ.1 8 0 0))) < 12) (
        (f_X8_set σ (σ.2.1 (Int32.toNatClampNeg (σ.1 8 0 0))) p1 p2 p3 (σ.1 1 0 2)).bind fun σ3 =>
        bnd (si σ3 8 0 0 ((σ3.1 8 0 0) + 1)) fun σ4 =>
        some (σ4, 1)))))
  else
    some (σ, 0)
set_option maxHeartbeats 4000000 in
set_option maxRecDepth 100000 in
theorem c_X9_add {l : Launch} {D : va_G} {cy : Nat → ClassId} {Ad : Nat → Nat} (hA : AdOK 58 Ad) {σ : St} {p1 : Int32} {p2 : Int32} {p3 : Int32} {o : (St × Int32)} (hf : f_X9_add σ p1 p2 p3 = some o) : CT l (wX cy Ad) D cy (AdA 58 Ad) yX9_add cX9_add 4 (some .boolean) 1 [.ref (Ad 41), .int p1, .int p2, .int p3] σ (o.1, (some (.int o.2))) := by
  refine CT.of mf_X9_add (wX_D hA) (Nat.le_of_ble_eq_true rfl) ?_
  intro E xl g
  have ho : ((o.1, (some (.int o.2))) : St × Option Value) = (o.1, (some (.int o.2))) := rfl
  unfold f_X9_add at hf
  show XJ E (wX cy Ad σ) 0 [(0, .ref (Ad 41)), (1, .int p1), (2, .int p2), (3, .int p3)] []
  refine x_aload_n g 0 dX9_add_0 rfl rfl ?_
  refine x_get g fl_X9_32 wx_41 rfl dX9_add_1 ?_
  refine x_if_lt g 16 dX9_add_4 (by decide) hf (fun c4 hf => ?_) (fun c4 hf => ?_)
  · refine x_aload_n g 0 dX9_add_7 rfl rfl ?_
    refine x_get g fl_X9_32 wx_41 rfl dX9_add_8 ?_
    refine x_bipush g 12 dX9_add_11 (by decide) ?_
    refine x_icmp_lt g 18 dX9_add_13 (by decide) hf (fun c13 hf => ?_) (fun c13 hf => ?_)
    · refine x_iconst g 0 dX9_add_16 (by decide) ?_
      cases hf
      exact x_zret g rfl (by decide) ho dX9_add_17
    · refine x_aload_n g 0 dX9_add_18 rfl rfl ?_
      refine x_get g fl_X9_11 wx_41 rfl dX9_add_19 ?_
      refine x_aload_n g 0 dX9_add_22 rfl rfl ?_
      refine x_get g fl_X9_32 wx_41 rfl dX9_add_23 ?_
      refine x_aald (b := Ad (45 + (σ.2.1 (Int32.toNatClampNeg (σ.1 8 0 0))))) g (t0 := 3) rfl wx_42 rfl dX9_add_26 hf (fun hf => ?_)
      have hi1 := (chk_some hf).1
      replace hf := (chk_some hf).2
      refine x_iload_n g 1 dX9_add_27 rfl rfl ?_
      refine x_iload_n g 2 dX9_add_28 rfl rfl ?_
      refine x_iload_n g 3 dX9_add_29 rfl rfl ?_
      refine x_aload_n g 0 dX9_add_30 rfl rfl ?_
      refine x_get g fl_X9_27 wx_41 rfl dX9_add_31 ?_
      refine x_get g fl_X9_39 wx_6 rfl dX9_add_34 ?_
      obtain ⟨σ3, hgr2, hf⟩ := obind hf
      refine x_callV (r := (RX8, TX8, 7)) g xl [.int p1, .int p2, .int p3, .int (σ.1 1 0 2)] [] [] (c_X8_set hA hi1 hgr2) mf_X8_set im_X8_set se_X8_set ml_X9_44 rfl (wx_S hi1) (by decide) (by decide) rfl (Nat.le_of_ble_eq_true rfl) dX9_add_37 rfl rfl ?_
      refine x_aload_n g 0 dX9_add_40 rfl rfl ?_
      refine x_dup g dX9_add_41 rfl ?_
      refine x_get g fl_X9_32 wx_41 rfl dX9_add_42 ?_
      refine x_iconst g 1 dX9_add_45 (by decide) ?_
      refine x_iadd g dX9_add_46 ?_
      refine x_putB g tyX9 fl_X9_32 tyX9_ok nmX9 wx_41 rfl rfl rfl (Nat.le_of_ble_eq_true rfl) (sx_41_0 _) dX9_add_47 hf (fun σ4 hf => ?_)
      refine x_iconst g 1 dX9_add_50 (by decide) ?_
      cases hf
      exact x_zret g rfl (by decide) ho dX9_add_51
  · refine x_iconst g 0 dX9_add_16 (by decide) ?_
    cases hf
    exact x_zret g rfl (by decide) ho dX9_add_17
/-! SlotChip.stray(IIZ)I -/
def f_X11_stray (σ : St) (p1 : Int32) (p2 : Int32) (p3 : Int32) : Option (St × Int32) :=
  (f_X1_isThere σ).bind fun r1 =>
  if r1 = 0 then
    some (σ, (-103))
  else
    ((f_X4_hasRouter σ 1 p1).bind fun r2 =>
    if r2 = 0 then
      some (σ, (-101))
    else
      ((f_X4_hasRouter σ 1 p2).bind fun r3 =>
      if r3 = 0 then
        some (σ, (-101))
      else
        ((f_X9_add σ p1 p2 p3).bind fun (σ5, r4) =>
        if r4 = 0 then
          some (σ5, (-104))
        else
          some (σ5, (σ5.1 8 0 0)))))
set_option maxHeartbeats 4000000 in
set_option maxRecDepth 100000 in
theorem c_X11_stray {l : Launch} {D : va_G} {cy : Nat → ClassId} {Ad : Nat → Nat} (hA : AdOK 58 Ad) {σ : St} {p1 : Int32} {p2 : Int32} {p3 : Int32} {o : (St × Int32)} (hf : f_X11_stray σ p1 p2 p3 = some o) : CT l (wX cy Ad) D cy (AdA 58 Ad) yX11_stray cX11_stray 4 (some .int) 2 [.ref (Ad 0), .int p1, .int p2, .int p3] σ (o.1, (some (.int o.2))) := by
  refine CT.of mf_X11_stray (wX_D hA) (Nat.le_of_ble_eq_true rfl) ?_
  intro E xl g
  have ho : ((o.1, (some (.int o.2))) : St × Option Value) = (o.1, (some (.int o.2))) := rfl
  unfold f_X11_stray at hf
  show XJ E (wX cy Ad σ) 0 [(0, .ref (Ad 0)), (1, .int p1), (2, .int p2), (3, .int p3)] []
  refine x_aload_n g 0 dX11_stray_0 rfl rfl ?_
  refine x_get g fl_X11_19 wx_0 rfl dX11_stray_1 ?_
  obtain ⟨r1, hgr1, hf⟩ := obind hf
  refine x_callV (r := (RX1, TX1, 6)) g xl [] [] [.int r1] (c_X1_isThere hA hgr1) mf_X1_isThere im_X1_isThere se_X1_isThere ml_X11_91 rfl wx_6 (by decide) (by decide) rfl (Nat.le_of_ble_eq_true rfl) dX11_stray_4 rfl rfl ?_
  refine x_if_ne g 13 dX11_stray_7 (by decide) hf (fun c7 hf => ?_) (fun c7 hf => ?_)
  · refine x_bipush g (-103) dX11_stray_10 (by decide) ?_
    cases hf
    exact x_iret g rfl ho dX11_stray_12
  · refine x_aload_n g 0 dX11_stray_13 rfl rfl ?_
    refine x_get g fl_X11_19 wx_0 rfl dX11_stray_14 ?_
    refine x_get g fl_X11_82 wx_6 rfl dX11_stray_17 ?_
    refine x_iload_n g 1 dX11_stray_20 rfl rfl ?_
    obtain ⟨r2, hgr2, hf⟩ := obind hf
    refine x_callV (r := (RX4, TX4, 3)) g xl [.int p1] [] [.int r2] (c_X4_hasRouter hA (by decide) hgr2) mf_X4_hasRouter im_X4_hasRouter se_X4_hasRouter ml_X11_128 rfl wx_7 (by decide) (by decide) rfl (Nat.le_of_ble_eq_true rfl) dX11_stray_21 rfl rfl ?_
    refine x_if_eq g 41 dX11_stray_24 (by decide) hf (fun c24 hf => ?_) (fun c24 hf => ?_)
    · refine x_bipush g (-101) dX11_stray_41 (by decide) ?_
      cases hf
      exact x_iret g rfl ho dX11_stray_43
    · refine x_aload_n g 0 dX11_stray_27 rfl rfl ?_
      refine x_get g fl_X11_19 wx_0 rfl dX11_stray_28 ?_
      refine x_get g fl_X11_82 wx_6 rfl dX11_stray_31 ?_
      refine x_iload_n g 2 dX11_stray_34 rfl rfl ?_
      obtain ⟨r3, hgr3, hf⟩ := obind hf
      refine x_callV (r := (RX4, TX4, 3)) g xl [.int p2] [] [.int r3] (c_X4_hasRouter hA (by decide) hgr3) mf_X4_hasRouter im_X4_hasRouter se_X4_hasRouter ml_X11_128 rfl wx_7 (by decide) (by decide) rfl (Nat.le_of_ble_eq_true rfl) dX11_stray_35 rfl rfl ?_
      refine x_if_ne g 44 dX11_stray_38 (by decide) hf (fun c38 hf => ?_) (fun c38 hf => ?_)
      · refine x_bipush g (-101) dX11_stray_41 (by decide) ?_
        cases hf
        exact x_iret g rfl ho dX11_stray_43
      · refine x_aload_n g 0 dX11_stray_44 rfl rfl ?_
        refine x_get g fl_X11_42 wx_0 rfl dX11_stray_45 ?_
        refine x_iload_n g 1 dX11_stray_48 rfl rfl ?_
        refine x_iload_n g 2 dX11_stray_49 rfl rfl ?_
        refine x_iload_n g 3 dX11_stray_50 rfl rfl ?_
        obtain ⟨⟨σ5, r4⟩, hgr4, hf⟩ := obind hf
        refine x_callV (r := (RX9, TX9, 6)) g xl [.int p1, .int p2, .int p3] [] [.int r4] (c_X9_add hA hgr4) mf_X9_add im_X9_add se_X9_add ml_X11_222 rfl wx_41 (by decide) (by decide) rfl (Nat.le_of_ble_eq_true rfl) dX11_stray_51 rfl rfl ?_
        refine x_if_eq g 67 dX11_stray_54 (by decide) hf (fun c54 hf => ?_) (fun c54 hf => ?_)
        · refine x_bipush g (-104) dX11_stray_67 (by decide) ?_
          cases hf
          exact x_iret g rfl ho dX11_stray_69
        · refine x_aload_n g 0 dX11_stray_57 rfl rfl ?_
          refine x_get g fl_X11_42 wx_0 rfl dX11_stray_58 ?_
          refine x_get g fl_X11_225 wx_41 rfl dX11_stray_61 ?_
          refine x_goto g 69 dX11_stray_64 (by decide) ?_
          cases hf
          exact x_iret g rfl ho dX11_stray_69
/-! SlotChip$Strays.find(I)LSlotChip$Stray; -/
def f_X9_find (σ : St) (p1 : Int32) : Option (Option Nat) :=
  if 0 ≤ p1 then
    (if p1 < (σ.1 8 0 0) then
      (if 12 ≤ p1 then
        some none
      else
        (chk (inb p1 12) (chk ((σ.2.1 (Int32.toNatClampNeg p1)) < 12) (
          some (some (σ.2.1 (Int32.toNatClampNeg p1)))))))
    else
      some none)
  else
    some none
set_option maxHeartbeats 4000000 in
set_option maxRecDepth 100000 in
theorem c_X9_find {l : Launch} {D : va_G} {cy : Nat → ClassId} {Ad : Nat → Nat} (hA : AdOK 58 Ad) {σ : St} {p1 : Int32} {o : (Option Nat)} (hf : f_X9_find σ p1 = some o) : CT l (wX cy Ad) D cy (AdA 58 Ad) yX9_find cX9_find 2 (some (.object "SlotChip$Stray")) 0 [.ref (Ad 41), .int p1] σ (σ, (some (vS Ad o))) := by
  refine CT.of mf_X9_find (wX_D hA) (Nat.le_of_ble_eq_true rfl) ?_
  intro E xl g
  have ho : ((σ, (some (vS Ad o))) : St × Option Value) = (σ, (some (vS Ad o))) := rfl
  unfold f_X9_find at hf
  show XJ E (wX cy Ad σ) 0 [(0, .ref (Ad 41)), (1, .int p1)] []
  refine x_iload_n g 1 dX9_find_0 rfl rfl ?_
  refine x_if_lt g 18 dX9_find_1 (by decide) hf (fun c1 hf => ?_) (fun c1 hf => ?_)
  · refine x_iload_n g 1 dX9_find_4 rfl rfl ?_
    refine x_aload_n g 0 dX9_find_5 rfl rfl ?_
    refine x_get g fl_X9_32 wx_41 rfl dX9_find_6 ?_
    refine x_icmp_ge g 18 dX9_find_9 (by decide) hf (fun c9 hf => ?_) (fun c9 hf => ?_)
    · refine x_iload_n g 1 dX9_find_12 rfl rfl ?_
      refine x_bipush g 12 dX9_find_13 (by decide) ?_
      refine x_icmp_lt g 22 dX9_find_15 (by decide) hf (fun c15 hf => ?_) (fun c15 hf => ?_)
      · refine x_null g dX9_find_18 ?_
        refine x_goto g 28 dX9_find_19 (by decide) ?_
        cases hf
        exact x_aret g rfl (Or.inl rfl) ho dX9_find_28
      · refine x_aload_n g 0 dX9_find_22 rfl rfl ?_
        refine x_get g fl_X9_11 wx_41 rfl dX9_find_23 ?_
        refine x_iload_n g 1 dX9_find_26 rfl rfl ?_
        refine x_aald (b := Ad (45 + (σ.2.1 (Int32.toNatClampNeg p1)))) g (t0 := 3) rfl wx_42 rfl dX9_find_27 hf (fun hf => ?_)
        have hi1 := (chk_some hf).1
        replace hf := (chk_some hf).2
        cases hf
        exact x_aret g rfl (Or.inr ⟨_, rfl⟩) ho dX9_find_28
    · refine x_null g dX9_find_18 ?_
      refine x_goto g 28 dX9_find_19 (by decide) ?_
      cases hf
      exact x_aret g rfl (Or.inl rfl) ho dX9_find_28
  · refine x_null g dX9_find_18 ?_
    refine x_goto g 28 dX9_find_19 (by decide) ?_
    cases hf
    exact x_aret g rfl (Or.inl rfl) ho dX9_find_28
/-! SlotChip$Stray.age(I)I -/
def f_X8_age (σ : St) (i : Nat) (p1 : Int32) : Option Int32 :=
  some (p1 - (σ.1 7 i 6))
set_option maxHeartbeats 4000000 in
set_option maxRecDepth 100000 in
theorem c_X8_age {l : Launch} {D : va_G} {cy : Nat → ClassId} {Ad : Nat → Nat} (hA : AdOK 58 Ad) {σ : St} {i : Nat} {p1 : Int32} (h_i : i < 12) {o : Int32} (hf : f_X8_age σ i p1 = some o) : CT l (wX cy Ad) D cy (AdA 58 Ad) yX8_age cX8_age 2 (some .int) 0 [.ref (Ad (45 + i)), .int p1] σ (σ, (some (.int o))) := by
  refine CT.of mf_X8_age (wX_D hA) (Nat.le_of_ble_eq_true rfl) ?_
  intro E xl g
  have ho : ((σ, (some (.int o))) : St × Option Value) = (σ, (some (.int o))) := rfl
  unfold f_X8_age at hf
  show XJ E (wX cy Ad σ) 0 [(0, .ref (Ad (45 + i))), (1, .int p1)] []
  refine x_iload_n g 1 dX8_age_0 rfl rfl ?_
  refine x_aload_n g 0 dX8_age_1 rfl rfl ?_
  refine x_get g fl_X8_28 (wx_S h_i) rfl dX8_age_2 ?_
  refine x_isub g dX8_age_5 ?_
  cases hf
  exact x_iret g rfl ho dX8_age_6
/-! SlotChip$Stray.portAhead(LSlotChip$Grid;)I -/
def f_X8_portAhead (σ : St) (i : Nat) : Option Int32 :=
  (f_X4_column σ 1 (σ.1 7 i 4)).bind fun r1 =>
  (f_X4_column σ 1 (σ.1 7 i 5)).bind fun r2 =>
  if (r1 - r2) = 0 then
    ((f_X4_row σ 1 (σ.1 7 i 4)).bind fun r3 =>
    (f_X4_row σ 1 (σ.1 7 i 5)).bind fun r4 =>
    if r4 < r3 then
      some 4
    else
      some 2)
  else
    (if 0 < (r1 - r2) then
      some 3
    else
      some 5)
set_option maxHeartbeats 4000000 in
set_option maxRecDepth 100000 in
theorem c_X8_portAhead {l : Launch} {D : va_G} {cy : Nat → ClassId} {Ad : Nat → Nat} (hA : AdOK 58 Ad) {σ : St} {i : Nat} (h_i : i < 12) {o : Int32} (hf : f_X8_portAhead σ i = some o) : CT l (wX cy Ad) D cy (AdA 58 Ad) yX8_portAhead cX8_portAhead 3 (some .int) 1 [.ref (Ad (45 + i)), .ref (Ad 7)] σ (σ, (some (.int o))) := by
  refine CT.of mf_X8_portAhead (wX_D hA) (Nat.le_of_ble_eq_true rfl) ?_
  intro E xl g
  have ho : ((σ, (some (.int o))) : St × Option Value) = (σ, (some (.int o))) := rfl
  unfold f_X8_portAhead at hf
  show XJ E (wX cy Ad σ) 0 [(0, .ref (Ad (45 + i))), (1, .ref (Ad 7))] []
  refine x_aload_n g 1 dX8_portAhead_0 rfl rfl ?_
  refine x_aload_n g 0 dX8_portAhead_1 rfl rfl ?_
  refine x_get g fl_X8_15 (wx_S h_i) rfl dX8_portAhead_2 ?_
  obtain ⟨r1, hgr1, hf⟩ := obind hf
  refine x_callV (r := (RX4, TX4, 3)) g xl [.int (σ.1 7 i 4)] [] [.int r1] (c_X4_column hA (by decide) hgr1) mf_X4_column im_X4_column se_X4_column ml_X8_55 rfl wx_7 (by decide) (by decide) rfl (Nat.le_of_ble_eq_true rfl) dX8_portAhead_5 rfl rfl ?_
  refine x_aload_n g 1 dX8_portAhead_8 rfl rfl ?_
  refine x_aload_n g 0 dX8_portAhead_9 rfl rfl ?_
  refine x_get g fl_X8_25 (wx_S h_i) rfl dX8_portAhead_10 ?_
  obtain ⟨r2, hgr2, hf⟩ := obind hf
  refine x_callV (r := (RX4, TX4, 3)) g xl [.int (σ.1 7 i 5)] [.int r1] [.int r2, .int r1] (c_X4_column hA (by decide) hgr2) mf_X4_column im_X4_column se_X4_column ml_X8_55 rfl wx_7 (by decide) (by decide) rfl (Nat.le_of_ble_eq_true rfl) dX8_portAhead_13 rfl rfl ?_
  refine x_isub g dX8_portAhead_16 ?_
  refine x_istore_n (lv' := [(2, .int (r1 - r2)), (0, .ref (Ad (45 + i))), (1, .ref (Ad 7))]) g dX8_portAhead_17 rfl (by decide) rfl ?_
  refine x_iload_n g 0 dX8_portAhead_18 rfl rfl ?_
  refine x_if_eq g 32 dX8_portAhead_19 (by decide) hf (fun c19 hf => ?_) (fun c19 hf => ?_)
  · refine x_aload_n g 2 dX8_portAhead_32 rfl rfl ?_
    refine x_aload_n g 1 dX8_portAhead_33 rfl rfl ?_
    refine x_get g fl_X8_15 (wx_S h_i) rfl dX8_portAhead_34 ?_
    obtain ⟨r3, hgr3, hf⟩ := obind hf
    refine x_callV (r := (RX4, TX4, 3)) g xl [.int (σ.1 7 i 4)] [] [.int r3] (c_X4_row hA (by decide) hgr3) mf_X4_row im_X4_row se_X4_row ml_X8_60 rfl wx_7 (by decide) (by decide) rfl (Nat.le_of_ble_eq_true rfl) dX8_portAhead_37 rfl rfl ?_
    refine x_aload_n g 2 dX8_portAhead_40 rfl rfl ?_
    refine x_aload_n g 1 dX8_portAhead_41 rfl rfl ?_
    refine x_get g fl_X8_25 (wx_S h_i) rfl dX8_portAhead_42 ?_
    obtain ⟨r4, hgr4, hf⟩ := obind hf
    refine x_callV (r := (RX4, TX4, 3)) g xl [.int (σ.1 7 i 5)] [.int r3] [.int r4, .int r3] (c_X4_row hA (by decide) hgr4) mf_X4_row im_X4_row se_X4_row ml_X8_60 rfl wx_7 (by decide) (by decide) rfl (Nat.le_of_ble_eq_true rfl) dX8_portAhead_45 rfl rfl ?_
    refine x_icmp_le g 55 dX8_portAhead_48 (by decide) hf (fun c48 hf => ?_) (fun c48 hf => ?_)
    · refine x_iconst g 4 dX8_portAhead_51 (by decide) ?_
      refine x_goto g 56 dX8_portAhead_52 (by decide) ?_
      cases hf
      exact x_iret g rfl ho dX8_portAhead_56
    · refine x_iconst g 2 dX8_portAhead_55 (by decide) ?_
      cases hf
      exact x_iret g rfl ho dX8_portAhead_56
  · refine x_iload_n g 0 dX8_portAhead_22 rfl rfl ?_
    refine x_if_le g 30 dX8_portAhead_23 (by decide) hf (fun c23 hf => ?_) (fun c23 hf => ?_)
    · refine x_iconst g 3 dX8_portAhead_26 (by decide) ?_
      refine x_goto g 31 dX8_portAhead_27 (by decide) ?_
      cases hf
      exact x_iret g rfl ho dX8_portAhead_31
    · refine x_iconst g 5 dX8_portAhead_30 (by decide) ?_
      cases hf
      exact x_iret g rfl ho dX8_portAhead_31
/-! SlotChip$Stray.linkAhead(LSlotChip$Grid;)I -/
def f_X8_linkAhead (σ : St) (i : Nat) : Option Int32 :=
  if (σ.1 7 i 5) = (-1) then
    ((f_X11_linkOf (σ.1 7 i 3) 0).bind fun r1 =>
    some r1)
  else
    (if (σ.1 7 i 5) = (σ.1 7 i 4) then
      ((f_X11_linkOf (σ.1 7 i 5) 1).bind fun r2 =>
      some r2)
    else
      ((f_X8_portAhead σ i).bind fun r3 =>
      (f_X11_linkOf (σ.1 7 i 5) r3).bind fun r4 =>
      some r4))
set_option maxHeartbeats 4000000 in
set_option maxRecDepth 100000 in
theorem c_X8_linkAhead {l : Launch} {D : va_G} {cy : Nat → ClassId} {Ad : Nat → Nat} (hA : AdOK 58 Ad) {σ : St} {i : Nat} (h_i : i < 12) {o : Int32} (hf : f_X8_linkAhead σ i = some o) : CT l (wX cy Ad) D cy (AdA 58 Ad) yX8_linkAhead cX8_linkAhead 2 (some .int) 2 [.ref (Ad (45 + i)), .ref (Ad 7)] σ (σ, (some (.int o))) := by
  refine CT.of mf_X8_linkAhead (wX_D hA) (Nat.le_of_ble_eq_true rfl) ?_
  intro E xl g
  have ho : ((σ, (some (.int o))) : St × Option Value) = (σ, (some (.int o))) := rfl
  unfold f_X8_linkAhead at hf
  show XJ E (wX cy Ad σ) 0 [(0, .ref (Ad (45 + i))), (1, .ref (Ad 7))] []
  refine x_aload_n g 0 dX8_linkAhead_0 rfl rfl ?_
  refine x_get g fl_X8_25 (wx_S h_i) rfl dX8_linkAhead_1 ?_
  refine x_iconst g (-1) dX8_linkAhead_4 (by decide) ?_
  refine x_icmp_ne g 17 dX8_linkAhead_5 (by decide) hf (fun c5 hf => ?_) (fun c5 hf => ?_)
  · refine x_aload_n g 0 dX8_linkAhead_8 rfl rfl ?_
    refine x_get g fl_X8_9 (wx_S h_i) rfl dX8_linkAhead_9 ?_
    refine x_iconst g 0 dX8_linkAhead_12 (by decide) ?_
    obtain ⟨r1, hgr1, hf⟩ := obind hf
    refine x_callN g xl [.int (σ.1 7 i 3), .int 0] [] [.int r1] (c_X11_linkOf hA hgr1) mf_X11_linkOf sm_X11_linkOf nl_X8_48 (by decide) (by decide) rfl (Nat.le_of_ble_eq_true rfl) dX8_linkAhead_13 rfl rfl ?_
    cases hf
    exact x_iret g rfl ho dX8_linkAhead_16
  · refine x_aload_n g 0 dX8_linkAhead_17 rfl rfl ?_
    refine x_get g fl_X8_25 (wx_S h_i) rfl dX8_linkAhead_18 ?_
    refine x_aload_n g 0 dX8_linkAhead_21 rfl rfl ?_
    refine x_get g fl_X8_25 (wx_S h_i) rfl dX8_linkAhead_22 ?_
    refine x_aload_n g 0 dX8_linkAhead_25 rfl rfl ?_
    refine x_get g fl_X8_15 (wx_S h_i) rfl dX8_linkAhead_26 ?_
    refine x_icmp_ne g 36 dX8_linkAhead_29 (by decide) hf (fun c29 hf => ?_) (fun c29 hf => ?_)
    · refine x_iconst g 1 dX8_linkAhead_32 (by decide) ?_
      refine x_goto g 41 dX8_linkAhead_33 (by decide) ?_
      obtain ⟨r2, hgr2, hf⟩ := obind hf
      refine x_callN g xl [.int (σ.1 7 i 5), .int 1] [] [.int r2] (c_X11_linkOf hA hgr2) mf_X11_linkOf sm_X11_linkOf nl_X8_48 (by decide) (by decide) rfl (Nat.le_of_ble_eq_true rfl) dX8_linkAhead_41 rfl rfl ?_
      cases hf
      exact x_iret g rfl ho dX8_linkAhead_44
    · refine x_aload_n g 0 dX8_linkAhead_36 rfl rfl ?_
      refine x_aload_n g 1 dX8_linkAhead_37 rfl rfl ?_
      obtain ⟨r3, hgr3, hf⟩ := obind hf
      refine x_callV (r := (RX8, TX8, 7)) g xl [.ref (Ad 7)] [.int (σ.1 7 i 5)] [.int r3, .int (σ.1 7 i 5)] (c_X8_portAhead hA h_i hgr3) mf_X8_portAhead im_X8_portAhead se_X8_portAhead ml_X8_52 rfl (wx_S h_i) (by decide) (by decide) rfl (Nat.le_of_ble_eq_true rfl) dX8_linkAhead_38 rfl rfl ?_
      obtain ⟨r4, hgr4, hf⟩ := obind hf
      refine x_callN g xl [.int (σ.1 7 i 5), .int r3] [] [.int r4] (c_X11_linkOf hA hgr4) mf_X11_linkOf sm_X11_linkOf nl_X8_48 (by decide) (by decide) rfl (Nat.le_of_ble_eq_true rfl) dX8_linkAhead_41 rfl rfl ?_
      cases hf
      exact x_iret g rfl ho dX8_linkAhead_44
/-! SlotChip$Stray.tell(ILSlotChip$Board;)I -/
def f_X8_tell (σ : St) (i : Nat) (p1 : Int32) : Option Int32 :=
  if p1 = 0 then
    some (σ.1 7 i 4)
  else
    (if p1 = 1 then
      (if (σ.1 7 i 0) = 0 then
        some 0
      else
        some 1)
    else
      (if p1 = 2 then
        some (σ.1 7 i 5)
      else
        (if p1 = 3 then
          ((f_X8_age σ i (σ.1 1 0 2)).bind fun r1 =>
          some r1)
        else
          ((f_X8_linkAhead σ i).bind fun r2 =>
          some r2))))
set_option maxHeartbeats 4000000 in
set_option maxRecDepth 100000 in
theorem c_X8_tell {l : Launch} {D : va_G} {cy : Nat → ClassId} {Ad : Nat → Nat} (hA : AdOK 58 Ad) {σ : St} {i : Nat} {p1 : Int32} (h_i : i < 12) {o : Int32} (hf : f_X8_tell σ i p1 = some o) : CT l (wX cy Ad) D cy (AdA 58 Ad) yX8_tell cX8_tell 3 (some .int) 3 [.ref (Ad (45 + i)), .int p1, .ref (Ad 6)] σ (σ, (some (.int o))) := by
  refine CT.of mf_X8_tell (wX_D hA) (Nat.le_of_ble_eq_true rfl) ?_
  intro E xl g
  have ho : ((σ, (some (.int o))) : St × Option Value) = (σ, (some (.int o))) := rfl
  unfold f_X8_tell at hf
  show XJ E (wX cy Ad σ) 0 [(0, .ref (Ad (45 + i))), (1, .int p1), (2, .ref (Ad 6))] []
  refine x_iload_n g 1 dX8_tell_0 rfl rfl ?_
  refine sp hf (fun n_1_0 hf => ?_) (fun n_1_0 hf => ?_)
  · refine x_tin g 0 31 32 dX8_tell_1 n_1_0 (by decide) ?_
    refine x_aload_n g 0 dX8_tell_32 rfl rfl ?_
    refine x_get g fl_X8_15 (wx_S h_i) rfl dX8_tell_33 ?_
    cases hf
    exact x_iret g rfl ho dX8_tell_36
  · refine sp hf (fun n_1_1 hf => ?_) (fun n_1_1 hf => ?_)
    · refine x_tin g 1 36 37 dX8_tell_1 n_1_1 (by decide) ?_
      refine x_aload_n g 0 dX8_tell_37 rfl rfl ?_
      refine x_get g fl_X8_18 (wx_S h_i) rfl dX8_tell_38 ?_
      refine x_if_eq g 48 dX8_tell_41 (by decide) hf (fun c41 hf => ?_) (fun c41 hf => ?_)
      · refine x_iconst g 0 dX8_tell_48 (by decide) ?_
        cases hf
        exact x_iret g rfl ho dX8_tell_49
      · refine x_iconst g 1 dX8_tell_44 (by decide) ?_
        refine x_goto g 49 dX8_tell_45 (by decide) ?_
        cases hf
        exact x_iret g rfl ho dX8_tell_49
    · refine sp hf (fun n_1_2 hf => ?_) (fun n_1_2 hf => ?_)
      · refine x_tin g 2 49 50 dX8_tell_1 n_1_2 (by decide) ?_
        refine x_aload_n g 0 dX8_tell_50 rfl rfl ?_
        refine x_get g fl_X8_25 (wx_S h_i) rfl dX8_tell_51 ?_
        cases hf
        exact x_iret g rfl ho dX8_tell_54
      · refine sp hf (fun n_1_3 hf => ?_) (fun n_1_3 hf => ?_)
        · refine x_tin g 3 54 55 dX8_tell_1 n_1_3 (by decide) ?_
          refine x_aload_n g 0 dX8_tell_55 rfl rfl ?_
          refine x_aload_n g 2 dX8_tell_56 rfl rfl ?_
          refine x_get g fl_X8_31 wx_6 rfl dX8_tell_57 ?_
          obtain ⟨r1, hgr1, hf⟩ := obind hf
          refine x_callV (r := (RX8, TX8, 7)) g xl [.int (σ.1 1 0 2)] [] [.int r1] (c_X8_age hA h_i hgr1) mf_X8_age im_X8_age se_X8_age ml_X8_36 rfl (wx_S h_i) (by decide) (by decide) rfl (Nat.le_of_ble_eq_true rfl) dX8_tell_60 rfl rfl ?_
          cases hf
          exact x_iret g rfl ho dX8_tell_63
        · refine x_tout g 64 dX8_tell_1 (by have e0 := tI n_1_0 (by decide : (0 : Int32).toInt = 0); have e1 := tI n_1_1 (by decide : (1 : Int32).toInt = 1); have e2 := tI n_1_2 (by decide : (2 : Int32).toInt = 2); have e3 := tI n_1_3 (by decide : (3 : Int32).toInt = 3); omega) (by decide) ?_
          refine x_aload_n g 0 dX8_tell_64 rfl rfl ?_
          refine x_aload_n g 2 dX8_tell_65 rfl rfl ?_
          refine x_get g fl_X8_40 wx_6 rfl dX8_tell_66 ?_
          obtain ⟨r2, hgr2, hf⟩ := obind hf
          refine x_callV (r := (RX8, TX8, 7)) g xl [.ref (Ad 7)] [] [.int r2] (c_X8_linkAhead hA h_i hgr2) mf_X8_linkAhead im_X8_linkAhead se_X8_linkAhead ml_X8_44 rfl (wx_S h_i) (by decide) (by decide) rfl (Nat.le_of_ble_eq_true rfl) dX8_tell_69 rfl rfl ?_
          cases hf
          exact x_iret g rfl ho dX8_tell_72
/-! SlotChip.straying(II)I -/
def f_X11_straying (σ : St) (p1 : Int32) (p2 : Int32) : Option Int32 :=
  (f_X9_find σ p1).bind fun r1 =>
  onR 12 r1
    (some (-101))
    (fun j2 =>
      if 0 ≤ p2 then
        (if 4 < p2 then
          some (-102)
        else
          ((f_X8_tell σ j2 p2).bind fun r3 =>
          some r3))
      else
        some (-102))
set_option maxHeartbeats 4000000 in
set_option maxRecDepth 100000 in
theorem c_X11_straying {l : Launch} {D : va_G} {cy : Nat → ClassId} {Ad : Nat → Nat} (hA : AdOK 58 Ad) {σ : St} {p1 : Int32} {p2 : Int32} {o : Int32} (hf : f_X11_straying σ p1 p2 = some o) : CT l (wX cy Ad) D cy (AdA 58 Ad) yX11_straying cX11_straying 4 (some .int) 4 [.ref (Ad 0), .int p1, .int p2] σ (σ, (some (.int o))) := by
  refine CT.of mf_X11_straying (wX_D hA) (Nat.le_of_ble_eq_true rfl) ?_
  intro E xl g
  have ho : ((σ, (some (.int o))) : St × Option Value) = (σ, (some (.int o))) := rfl
  unfold f_X11_straying at hf
  show XJ E (wX cy Ad σ) 0 [(0, .ref (Ad 0)), (1, .int p1), (2, .int p2)] []
  refine x_aload_n g 0 dX11_straying_0 rfl rfl ?_
  refine x_get g fl_X11_42 wx_0 rfl dX11_straying_1 ?_
  refine x_iload_n g 1 dX11_straying_4 rfl rfl ?_
  obtain ⟨r1, hgr1, hf⟩ := obind hf
  refine onR_sp hf (fun e hf => ?_) (fun j2 h_j2 e hf => ?_)
  · rw [e] at hgr1
    refine x_callV (r := (RX9, TX9, 6)) g xl [.int p1] [] [.null] (c_X9_find hA hgr1) mf_X9_find im_X9_find se_X9_find ml_X11_228 rfl wx_41 (by decide) (by decide) rfl (Nat.le_of_ble_eq_true rfl) dX11_straying_5 rfl rfl ?_
    refine x_astore_nN (lv' := [(3, .null), (0, .ref (Ad 0)), (1, .int p1), (2, .int p2)]) g dX11_straying_8 rfl (by decide) rfl ?_
    refine x_aload_nN g 0 dX11_straying_9 rfl rfl ?_
    refine x_ifnonnullN g dX11_straying_10 ?_
    refine x_bipush g (-101) dX11_straying_13 (by decide) ?_
    cases hf
    exact x_iret g rfl ho dX11_straying_15
  · rw [e] at hgr1
    refine x_callV (r := (RX9, TX9, 6)) g xl [.int p1] [] [.ref (Ad (45 + j2))] (c_X9_find hA hgr1) mf_X9_find im_X9_find se_X9_find ml_X11_228 rfl wx_41 (by decide) (by decide) rfl (Nat.le_of_ble_eq_true rfl) dX11_straying_5 rfl rfl ?_
    refine x_astore_n (lv' := [(3, .ref (Ad (45 + j2))), (0, .ref (Ad 0)), (1, .int p1), (2, .int p2)]) g dX11_straying_8 rfl (by decide) rfl ?_
    refine x_aload_n g 0 dX11_straying_9 rfl rfl ?_
    refine x_ifnonnull g 16 dX11_straying_10 (by decide) ?_
    refine x_iload_n g 3 dX11_straying_16 rfl rfl ?_
    refine x_if_lt g 25 dX11_straying_17 (by decide) hf (fun c17 hf => ?_) (fun c17 hf => ?_)
    · refine x_iload_n g 3 dX11_straying_20 rfl rfl ?_
      refine x_iconst g 4 dX11_straying_21 (by decide) ?_
      refine x_icmp_le g 30 dX11_straying_22 (by decide) hf (fun c22 hf => ?_) (fun c22 hf => ?_)
      · refine x_bipush g (-102) dX11_straying_25 (by decide) ?_
        refine x_goto g 39 dX11_straying_27 (by decide) ?_
        cases hf
        exact x_iret g rfl ho dX11_straying_39
      · refine x_aload_n g 0 dX11_straying_30 rfl rfl ?_
        refine x_iload_n g 3 dX11_straying_31 rfl rfl ?_
        refine x_aload_n g 1 dX11_straying_32 rfl rfl ?_
        refine x_get g fl_X11_19 wx_0 rfl dX11_straying_33 ?_
        obtain ⟨r3, hgr3, hf⟩ := obind hf
        refine x_callV (r := (RX8, TX8, 7)) g xl [.int p2, .ref (Ad 6)] [] [.int r3] (c_X8_tell hA h_j2 hgr3) mf_X8_tell im_X8_tell se_X8_tell ml_X11_231 rfl (wx_S h_j2) (by decide) (by decide) rfl (Nat.le_of_ble_eq_true rfl) dX11_straying_36 rfl rfl ?_
        cases hf
        exact x_iret g rfl ho dX11_straying_39
    · refine x_bipush g (-102) dX11_straying_25 (by decide) ?_
      refine x_goto g 39 dX11_straying_27 (by decide) ?_
      cases hf
      exact x_iret g rfl ho dX11_straying_39
/-! SlotChip$Strays.arrivals(Z)LSlotChip$Arrivals; -/
def f_X9_arrivals (σ : St) (p1 : Int32) : Option Nat :=
  if p1 = 0 then
    some 1
  else
    some 0
set_option maxHeartbeats 4000000 in
set_option maxRecDepth 100000 in
theorem c_X9_arrivals {l : Launch} {D : va_G} {cy : Nat → ClassId} {Ad : Nat → Nat} (hA : AdOK 58 Ad) {σ : St} {p1 : Int32} {o : Nat} (hf : f_X9_arrivals σ p1 = some o) : CT l (wX cy Ad) D cy (AdA 58 Ad) yX9_arrivals cX9_arrivals 2 (some (.object "SlotChip$Arrivals")) 0 [.ref (Ad 41), .int p1] σ (σ, (some (.ref (Ad (43 + o))))) := by
  refine CT.of mf_X9_arrivals (wX_D hA) (Nat.le_of_ble_eq_true rfl) ?_
  intro E xl g
  have ho : ((σ, (some (.ref (Ad (43 + o))))) : St × Option Value) = (σ, (some (.ref (Ad (43 + o))))) := rfl
  unfold f_X9_arrivals at hf
  show XJ E (wX cy Ad σ) 0 [(0, .ref (Ad 41)), (1, .int p1)] []
  refine x_iload_n g 1 dX9_arrivals_0 rfl rfl ?_
  refine x_if_eq g 11 dX9_arrivals_1 (by decide) hf (fun c1 hf => ?_) (fun c1 hf => ?_)
  · refine x_aload_n g 0 dX9_arrivals_11 rfl rfl ?_
    refine x_get g fl_X9_24 wx_41 rfl dX9_arrivals_12 ?_
    cases hf
    exact x_aret g rfl (Or.inr ⟨_, rfl⟩) ho dX9_arrivals_15
  · refine x_aload_n g 0 dX9_arrivals_4 rfl rfl ?_
    refine x_get g fl_X9_20 wx_41 rfl dX9_arrivals_5 ?_
    refine x_goto g 15 dX9_arrivals_8 (by decide) ?_
    cases hf
    exact x_aret g rfl (Or.inr ⟨_, rfl⟩) ho dX9_arrivals_15
/-! SlotChip$Arrivals.tell(I)I -/
def f_X0_tell (σ : St) (i : Nat) (p1 : Int32) : Option Int32 :=
  if p1 = 0 then
    some (σ.1 0 i 0)
  else
    (if p1 = 1 then
      some (σ.1 0 i 1)
    else
      some (σ.1 0 i 2))
set_option maxHeartbeats 4000000 in
set_option maxRecDepth 100000 in
theorem c_X0_tell {l : Launch} {D : va_G} {cy : Nat → ClassId} {Ad : Nat → Nat} (hA : AdOK 58 Ad) {σ : St} {i : Nat} {p1 : Int32} (h_i : i < 2) {o : Int32} (hf : f_X0_tell σ i p1 = some o) : CT l (wX cy Ad) D cy (AdA 58 Ad) yX0_tell cX0_tell 2 (some .int) 0 [.ref (Ad (43 + i)), .int p1] σ (σ, (some (.int o))) := by
  refine CT.of mf_X0_tell (wX_D hA) (Nat.le_of_ble_eq_true rfl) ?_
  intro E xl g
  have ho : ((σ, (some (.int o))) : St × Option Value) = (σ, (some (.int o))) := rfl
  unfold f_X0_tell at hf
  show XJ E (wX cy Ad σ) 0 [(0, .ref (Ad (43 + i))), (1, .int p1)] []
  refine x_iload_n g 1 dX0_tell_0 rfl rfl ?_
  refine sp hf (fun n_1_0 hf => ?_) (fun n_1_0 hf => ?_)
  · refine x_lkin g 0 27 28 dX0_tell_1 n_1_0 (by decide) (by decide) (by decide) ?_
    refine x_aload_n g 0 dX0_tell_28 rfl rfl ?_
    refine x_get g fl_X0_7 (wx_A h_i) rfl dX0_tell_29 ?_
    cases hf
    exact x_iret g rfl ho dX0_tell_32
  · refine sp hf (fun n_1_1 hf => ?_) (fun n_1_1 hf => ?_)
    · refine x_lkin g 1 32 33 dX0_tell_1 n_1_1 (by decide) (by decide) (by decide) ?_
      refine x_aload_n g 0 dX0_tell_33 rfl rfl ?_
      refine x_get g fl_X0_13 (wx_A h_i) rfl dX0_tell_34 ?_
      cases hf
      exact x_iret g rfl ho dX0_tell_37
    · refine x_lkout g 38 dX0_tell_1 (by decide) (by have e0 := tI n_1_0 (by decide : (0 : Int32).toInt = 0); have e1 := tI n_1_1 (by decide : (1 : Int32).toInt = 1); simp [Op.lookupswitch.offset, e0, Ne.symm e0, e1, Ne.symm e1]) (by decide) ?_
      refine x_aload_n g 0 dX0_tell_38 rfl rfl ?_
      refine x_get g fl_X0_16 (wx_A h_i) rfl dX0_tell_39 ?_
      cases hf
      exact x_iret g rfl ho dX0_tell_42
/-! SlotChip.arrived(ZI)I -/
def f_X11_arrived (σ : St) (p1 : Int32) (p2 : Int32) : Option Int32 :=
  if 0 ≤ p2 then
    (if 2 < p2 then
      some (-102)
    else
      ((f_X9_arrivals σ p1).bind fun r1 => chk (r1 < 2) (
        (f_X0_tell σ r1 p2).bind fun r2 =>
        some r2)))
  else
    some (-102)
set_option maxHeartbeats 4000000 in
set_option maxRecDepth 100000 in
theorem c_X11_arrived {l : Launch} {D : va_G} {cy : Nat → ClassId} {Ad : Nat → Nat} (hA : AdOK 58 Ad) {σ : St} {p1 : Int32} {p2 : Int32} {o : Int32} (hf : f_X11_arrived σ p1 p2 = some o) : CT l (wX cy Ad) D cy (AdA 58 Ad) yX11_arrived cX11_arrived 3 (some .int) 1 [.ref (Ad 0), .int p1, .int p2] σ (σ, (some (.int o))) := by
  refine CT.of mf_X11_arrived (wX_D hA) (Nat.le_of_ble_eq_true rfl) ?_
  intro E xl g
  have ho : ((σ, (some (.int o))) : St × Option Value) = (σ, (some (.int o))) := rfl
  unfold f_X11_arrived at hf
  show XJ E (wX cy Ad σ) 0 [(0, .ref (Ad 0)), (1, .int p1), (2, .int p2)] []
  refine x_iload_n g 2 dX11_arrived_0 rfl rfl ?_
  refine x_if_lt g 9 dX11_arrived_1 (by decide) hf (fun c1 hf => ?_) (fun c1 hf => ?_)
  · refine x_iload_n g 2 dX11_arrived_4 rfl rfl ?_
    refine x_iconst g 2 dX11_arrived_5 (by decide) ?_
    refine x_icmp_le g 14 dX11_arrived_6 (by decide) hf (fun c6 hf => ?_) (fun c6 hf => ?_)
    · refine x_bipush g (-102) dX11_arrived_9 (by decide) ?_
      refine x_goto g 26 dX11_arrived_11 (by decide) ?_
      cases hf
      exact x_iret g rfl ho dX11_arrived_26
    · refine x_aload_n g 0 dX11_arrived_14 rfl rfl ?_
      refine x_get g fl_X11_42 wx_0 rfl dX11_arrived_15 ?_
      refine x_iload_n g 1 dX11_arrived_18 rfl rfl ?_
      obtain ⟨r1, hgr1, hf⟩ := obind hf
      have h_r1 := (chk_some hf).1
      replace hf := (chk_some hf).2
      refine x_callV (r := (RX9, TX9, 6)) g xl [.int p1] [] [.ref (Ad (43 + r1))] (c_X9_arrivals hA hgr1) mf_X9_arrivals im_X9_arrivals se_X9_arrivals ml_X11_236 rfl wx_41 (by decide) (by decide) rfl (Nat.le_of_ble_eq_true rfl) dX11_arrived_19 rfl rfl ?_
      refine x_iload_n g 2 dX11_arrived_22 rfl rfl ?_
      obtain ⟨r2, hgr2, hf⟩ := obind hf
      refine x_callV (r := (RX0, TX0, 3)) g xl [.int p2] [] [.int r2] (c_X0_tell hA h_r1 hgr2) mf_X0_tell im_X0_tell se_X0_tell ml_X11_240 rfl (wx_A h_r1) (by decide) (by decide) rfl (Nat.le_of_ble_eq_true rfl) dX11_arrived_23 rfl rfl ?_
      cases hf
      exact x_iret g rfl ho dX11_arrived_26
  · refine x_bipush g (-102) dX11_arrived_9 (by decide) ?_
    refine x_goto g 26 dX11_arrived_11 (by decide) ?_
    cases hf
    exact x_iret g rfl ho dX11_arrived_26
/-! SlotChip$Arrivals.compareWith(LSlotChip$Arrivals;)I -/
def f_X0_compareWith (σ : St) (i : Nat) (p1 : Nat) : Option Int32 :=
  if (σ.1 0 i 0) = 0 then
    some (-2)
  else
    (if (σ.1 0 p1 0) = 0 then
      some (-2)
    else
      (bnd ((Int32.toInt64 (σ.1 0 i 1)) * (Int32.toInt64 (σ.1 0 p1 0))) fun y1 =>
      bnd ((Int32.toInt64 (σ.1 0 p1 1)) * (Int32.toInt64 (σ.1 0 i 0))) fun y2 =>
      if (lg_cmp y1 y2) < 0 then
        some 1
      else
        (if (lg_cmp y1 y2) = 0 then
          some 0
        else
          some (-1))))
set_option maxHeartbeats 4000000 in
set_option maxRecDepth 100000 in
theorem c_X0_compareWith {l : Launch} {D : va_G} {cy : Nat → ClassId} {Ad : Nat → Nat} (hA : AdOK 58 Ad) {σ : St} {i : Nat} {p1 : Nat} (h_i : i < 2) (h_p1 : p1 < 2) {o : Int32} (hf : f_X0_compareWith σ i p1 = some o) : CT l (wX cy Ad) D cy (AdA 58 Ad) yX0_compareWith cX0_compareWith 6 (some .int) 0 [.ref (Ad (43 + i)), .ref (Ad (43 + p1))] σ (σ, (some (.int o))) := by
  refine CT.of mf_X0_compareWith (wX_D hA) (Nat.le_of_ble_eq_true rfl) ?_
  intro E xl g
  have ho : ((σ, (some (.int o))) : St × Option Value) = (σ, (some (.int o))) := rfl
  unfold f_X0_compareWith at hf
  show XJ E (wX cy Ad σ) 0 [(0, .ref (Ad (43 + i))), (1, .ref (Ad (43 + p1)))] []
  refine x_aload_n g 0 dX0_compareWith_0 rfl rfl ?_
  refine x_get g fl_X0_7 (wx_A h_i) rfl dX0_compareWith_1 ?_
  refine x_if_eq g 14 dX0_compareWith_4 (by decide) hf (fun c4 hf => ?_) (fun c4 hf => ?_)
  · refine x_bipush g (-2) dX0_compareWith_14 (by decide) ?_
    cases hf
    exact x_iret g rfl ho dX0_compareWith_16
  · refine x_aload_n g 1 dX0_compareWith_7 rfl rfl ?_
    refine x_get g fl_X0_7 (wx_A h_p1) rfl dX0_compareWith_8 ?_
    refine x_if_ne g 17 dX0_compareWith_11 (by decide) hf (fun c11 hf => ?_) (fun c11 hf => ?_)
    · refine x_bipush g (-2) dX0_compareWith_14 (by decide) ?_
      cases hf
      exact x_iret g rfl ho dX0_compareWith_16
    · refine x_aload_n g 0 dX0_compareWith_17 rfl rfl ?_
      refine x_get g fl_X0_13 (wx_A h_i) rfl dX0_compareWith_18 ?_
      refine x_i2l g dX0_compareWith_21 ?_
      refine x_aload_n g 1 dX0_compareWith_22 rfl rfl ?_
      refine x_get g fl_X0_7 (wx_A h_p1) rfl dX0_compareWith_23 ?_
      refine x_i2l g dX0_compareWith_26 ?_
      refine x_lmul g dX0_compareWith_27 ?_
      refine x_naml hf (fun y1 hf => ?_)
      refine x_lstore_n (lv' := [(2, .long y1), (0, .ref (Ad (43 + i))), (1, .ref (Ad (43 + p1)))]) g dX0_compareWith_28 rfl (by decide) rfl ?_
      refine x_aload_n g 2 dX0_compareWith_29 rfl rfl ?_
      refine x_get g fl_X0_13 (wx_A h_p1) rfl dX0_compareWith_30 ?_
      refine x_i2l g dX0_compareWith_33 ?_
      refine x_aload_n g 1 dX0_compareWith_34 rfl rfl ?_
      refine x_get g fl_X0_7 (wx_A h_i) rfl dX0_compareWith_35 ?_
      refine x_i2l g dX0_compareWith_38 ?_
      refine x_lmul g dX0_compareWith_39 ?_
      refine x_naml hf (fun y2 hf => ?_)
      refine x_lstore (lv' := [(4, .long y2), (2, .long y1), (0, .ref (Ad (43 + i))), (1, .ref (Ad (43 + p1)))]) g dX0_compareWith_40 (by decide) rfl ?_
      refine x_lload_n g 1 dX0_compareWith_42 rfl rfl ?_
      refine x_lload g 0 dX0_compareWith_43 rfl ?_
      refine x_lcmp g dX0_compareWith_45 ?_
      refine x_if_ge g 53 dX0_compareWith_46 (by decide) hf (fun c46 hf => ?_) (fun c46 hf => ?_)
      · refine x_iconst g 1 dX0_compareWith_49 (by decide) ?_
        refine x_goto g 65 dX0_compareWith_50 (by decide) ?_
        cases hf
        exact x_iret g rfl ho dX0_compareWith_65
      · refine x_lload_n g 1 dX0_compareWith_53 rfl rfl ?_
        refine x_lload g 0 dX0_compareWith_54 rfl ?_
        refine x_lcmp g dX0_compareWith_56 ?_
        refine x_if_ne g 64 dX0_compareWith_57 (by decide) hf (fun c57 hf => ?_) (fun c57 hf => ?_)
        · refine x_iconst g 0 dX0_compareWith_60 (by decide) ?_
          refine x_goto g 65 dX0_compareWith_61 (by decide) ?_
          cases hf
          exact x_iret g rfl ho dX0_compareWith_65
        · refine x_iconst g (-1) dX0_compareWith_64 (by decide) ?_
          cases hf
          exact x_iret g rfl ho dX0_compareWith_65
/-! SlotChip.faster()I -/
def f_X11_faster (σ : St) : Option Int32 :=
  (f_X9_arrivals σ 1).bind fun r1 => chk (r1 < 2) (
    (f_X9_arrivals σ 0).bind fun r2 => chk (r2 < 2) (
      (f_X0_compareWith σ r1 r2).bind fun r3 =>
      some r3))
set_option maxHeartbeats 4000000 in
set_option maxRecDepth 100000 in
theorem c_X11_faster {l : Launch} {D : va_G} {cy : Nat → ClassId} {Ad : Nat → Nat} (hA : AdOK 58 Ad) {σ : St} {o : Int32} (hf : f_X11_faster σ = some o) : CT l (wX cy Ad) D cy (AdA 58 Ad) yX11_faster cX11_faster 1 (some .int) 1 [.ref (Ad 0)] σ (σ, (some (.int o))) := by
  refine CT.of mf_X11_faster (wX_D hA) (Nat.le_of_ble_eq_true rfl) ?_
  intro E xl g
  have ho : ((σ, (some (.int o))) : St × Option Value) = (σ, (some (.int o))) := rfl
  unfold f_X11_faster at hf
  show XJ E (wX cy Ad σ) 0 [(0, .ref (Ad 0))] []
  refine x_aload_n g 0 dX11_faster_0 rfl rfl ?_
  refine x_get g fl_X11_42 wx_0 rfl dX11_faster_1 ?_
  refine x_iconst g 1 dX11_faster_4 (by decide) ?_
  obtain ⟨r1, hgr1, hf⟩ := obind hf
  have h_r1 := (chk_some hf).1
  replace hf := (chk_some hf).2
  refine x_callV (r := (RX9, TX9, 6)) g xl [.int 1] [] [.ref (Ad (43 + r1))] (c_X9_arrivals hA hgr1) mf_X9_arrivals im_X9_arrivals se_X9_arrivals ml_X11_236 rfl wx_41 (by decide) (by decide) rfl (Nat.le_of_ble_eq_true rfl) dX11_faster_5 rfl rfl ?_
  refine x_aload_n g 0 dX11_faster_8 rfl rfl ?_
  refine x_get g fl_X11_42 wx_0 rfl dX11_faster_9 ?_
  refine x_iconst g 0 dX11_faster_12 (by decide) ?_
  obtain ⟨r2, hgr2, hf⟩ := obind hf
  have h_r2 := (chk_some hf).1
  replace hf := (chk_some hf).2
  refine x_callV (r := (RX9, TX9, 6)) g xl [.int 0] [.ref (Ad (43 + r1))] [.ref (Ad (43 + r2)), .ref (Ad (43 + r1))] (c_X9_arrivals hA hgr2) mf_X9_arrivals im_X9_arrivals se_X9_arrivals ml_X11_236 rfl wx_41 (by decide) (by decide) rfl (Nat.le_of_ble_eq_true rfl) dX11_faster_13 rfl rfl ?_
  obtain ⟨r3, hgr3, hf⟩ := obind hf
  refine x_callV (r := (RX0, TX0, 3)) g xl [.ref (Ad (43 + r2))] [] [.int r3] (c_X0_compareWith hA h_r1 h_r2 hgr3) mf_X0_compareWith im_X0_compareWith se_X0_compareWith ml_X11_243 rfl (wx_A h_r1) (by decide) (by decide) rfl (Nat.le_of_ble_eq_true rfl) dX11_faster_16 rfl rfl ?_
  cases hf
  exact x_iret g rfl ho dX11_faster_19
/-! SlotChip$Board.slotNow()I -/
def f_X1_slotNow (σ : St) : Option Int32 :=
  if (σ.1 1 0 1) < 1 then
    some 0
  else
    (chk (¬ (σ.1 1 0 1) = 0) (
      some (fmodI (σ.1 1 0 2) (σ.1 1 0 1))))
set_option maxHeartbeats 4000000 in
set_option maxRecDepth 100000 in
theorem c_X1_slotNow {l : Launch} {D : va_G} {cy : Nat → ClassId} {Ad : Nat → Nat} (hA : AdOK 58 Ad) {σ : St} {o : Int32} (hf : f_X1_slotNow σ = some o) : CT l (wX cy Ad) D cy (AdA 58 Ad) yX1_slotNow cX1_slotNow 1 (some .int) 1 [.ref (Ad 6)] σ (σ, (some (.int o))) := by
  refine CT.of mf_X1_slotNow (wX_D hA) (Nat.le_of_ble_eq_true rfl) ?_
  intro E xl g
  have ho : ((σ, (some (.int o))) : St × Option Value) = (σ, (some (.int o))) := rfl
  unfold f_X1_slotNow at hf
  show XJ E (wX cy Ad σ) 0 [(0, .ref (Ad 6))] []
  refine x_aload_n g 0 dX1_slotNow_0 rfl rfl ?_
  refine x_get g fl_X1_45 wx_6 rfl dX1_slotNow_1 ?_
  refine x_iconst g 1 dX1_slotNow_4 (by decide) ?_
  refine x_icmp_ge g 12 dX1_slotNow_5 (by decide) hf (fun c5 hf => ?_) (fun c5 hf => ?_)
  · refine x_iconst g 0 dX1_slotNow_8 (by decide) ?_
    refine x_goto g 23 dX1_slotNow_9 (by decide) ?_
    cases hf
    exact x_iret g rfl ho dX1_slotNow_23
  · refine x_aload_n g 0 dX1_slotNow_12 rfl rfl ?_
    refine x_get g fl_X1_46 wx_6 rfl dX1_slotNow_13 ?_
    refine x_aload_n g 0 dX1_slotNow_16 rfl rfl ?_
    refine x_get g fl_X1_45 wx_6 rfl dX1_slotNow_17 ?_
    have hz := (chk_some hf).1
    replace hf := (chk_some hf).2
    refine x_fmod g ml_X1_53 hz (by decide) (Nat.le_of_ble_eq_true rfl) dX1_slotNow_20 ?_
    cases hf
    exact x_iret g rfl ho dX1_slotNow_23
/-! SlotChip$Circuit.letterOf(II)I -/
def f_X2_letterOf (p1 : Int32) (p2 : Int32) : Option Int32 :=
  some ((2 * p2) + p1)
set_option maxHeartbeats 4000000 in
set_option maxRecDepth 100000 in
theorem c_X2_letterOf {l : Launch} {D : va_G} {cy : Nat → ClassId} {Ad : Nat → Nat} (hA : AdOK 58 Ad) {σ : St} {p1 : Int32} {p2 : Int32} {o : Int32} (hf : f_X2_letterOf p1 p2 = some o) : CT l (wX cy Ad) D cy (AdA 58 Ad) yX2_letterOf cX2_letterOf 2 (some .int) 0 [.int p1, .int p2] σ (σ, (some (.int o))) := by
  refine CT.of mf_X2_letterOf (wX_D hA) (Nat.le_of_ble_eq_true rfl) ?_
  intro E xl g
  have ho : ((σ, (some (.int o))) : St × Option Value) = (σ, (some (.int o))) := rfl
  unfold f_X2_letterOf at hf
  show XJ E (wX cy Ad σ) 0 [(0, .int p1), (1, .int p2)] []
  refine x_iconst g 2 dX2_letterOf_0 (by decide) ?_
  refine x_iload_n g 1 dX2_letterOf_1 rfl rfl ?_
  refine x_imul g dX2_letterOf_2 ?_
  refine x_iload_n g 0 dX2_letterOf_3 rfl rfl ?_
  refine x_iadd g dX2_letterOf_4 ?_
  cases hf
  exact x_iret g rfl ho dX2_letterOf_5
/-! SlotChip$Circuit.send(LSlotChip$Circuit;)V -/
def f_X2_send (σ : St) (i : Nat) (p1 : (Option Nat)) : Option St :=
  if 0 < (σ.1 2 i 8) then
    (if 0 < (σ.1 2 i 11) then
      (onR 8 p1
        (bnd (si σ 2 i 8 ((σ.1 2 i 8) - 1)) fun σ2 =>
        bnd (si σ2 2 i 11 ((σ2.1 2 i 11) - 1)) fun σ3 =>
        (f_X2_letterOf 1 0).bind fun r4 =>
        bnd (si σ3 18 i 0 r4) fun σ5 =>
        some σ5)
        (fun j1 =>
          bnd (if 3 < (σ.1 2 j1 10) then 3 else (σ.1 2 j1 10)) fun y6 =>
          bnd (si σ 2 i 8 ((σ.1 2 i 8) - 1)) fun σ7 =>
          bnd (si σ7 2 i 11 ((σ7.1 2 i 11) - 1)) fun σ8 =>
          bnd (si σ8 2 j1 10 ((σ8.1 2 j1 10) - y6)) fun σ9 =>
          (f_X2_letterOf 1 y6).bind fun r10 =>
          bnd (si σ9 18 i 0 r10) fun σ11 =>
          some σ11))
    else
      (onR 8 p1
        (some σ)
        (fun j12 =>
          bnd (if 3 < (σ.1 2 j12 10) then 3 else (σ.1 2 j12 10)) fun y13 =>
          if y13 = 0 then
            some σ
          else
            (bnd (si σ 2 i 8 ((σ.1 2 i 8) - 0)) fun σ14 =>
            bnd (si σ14 2 i 11 ((σ14.1 2 i 11) - 0)) fun σ15 =>
            bnd (si σ15 2 j12 10 ((σ15.1 2 j12 10) - y13)) fun σ16 =>
            (f_X2_letterOf 0 y13).bind fun r17 =>
            bnd (si σ16 18 i 0 r17) fun σ18 =>
            some σ18))))
  else
    (onR 8 p1
      (some σ)
      (fun j19 =>
        bnd (if 3 < (σ.1 2 j19 10) then 3 else (σ.1 2 j19 10)) fun y20 =>
        if y20 = 0 then
          some σ
        else
          (bnd (si σ 2 i 8 ((σ.1 2 i 8) - 0)) fun σ21 =>
          bnd (si σ21 2 i 11 ((σ21.1 2 i 11) - 0)) fun σ22 =>
          bnd (si σ22 2 j19 10 ((σ22.1 2 j19 10) - y20)) fun σ23 =>
          (f_X2_letterOf 0 y20).bind fun r24 =>
          bnd (si σ23 18 i 0 r24) fun σ25 =>
          some σ25)))
set_option maxHeartbeats 4000000 in
set_option maxRecDepth 100000 in
theorem c_X2_send {l : Launch} {D : va_G} {cy : Nat → ClassId} {Ad : Nat → Nat} (hA : AdOK 58 Ad) {σ : St} {i : Nat} {p1 : (Option Nat)} (h_i : i < 8) {o : St} (hf : f_X2_send σ i p1 = some o) : CT l (wX cy Ad) D cy (AdA 58 Ad) yX2_send cX2_send 4 none 1 [.ref (Ad (14 + 3 * i)), vC Ad p1] σ (o, none) := by
  refine CT.of mf_X2_send (wX_D hA) (by cases p1 <;> exact Nat.le_of_ble_eq_true rfl) ?_
  intro E xl g
  have ho : ((o, none) : St × Option Value) = (o, none) := rfl
  unfold f_X2_send at hf
  show XJ E (wX cy Ad σ) 0 [(0, .ref (Ad (14 + 3 * i))), (1, vC Ad p1)] []
  refine x_aload_n g 0 dX2_send_0 rfl rfl ?_
  refine x_get g fl_X2_47 (wx_C h_i) rfl dX2_send_1 ?_
  refine x_if_le g 18 dX2_send_4 (by decide) hf (fun c4 hf => ?_) (fun c4 hf => ?_)
  · refine x_aload_n g 0 dX2_send_7 rfl rfl ?_
    refine x_get g fl_X2_50 (wx_C h_i) rfl dX2_send_8 ?_
    refine x_if_le g 18 dX2_send_11 (by decide) hf (fun c11 hf => ?_) (fun c11 hf => ?_)
    · refine x_iconst g 1 dX2_send_14 (by decide) ?_
      refine x_goto g 19 dX2_send_15 (by decide) ?_
      refine x_istore_n (lv' := [(2, .int 1), (0, .ref (Ad (14 + 3 * i))), (1, vC Ad p1)]) g dX2_send_19 rfl (by decide) (by cases p1 <;> rfl) ?_
      refine onR_sp hf (fun e hf => ?_) (fun j1 h_j1 e hf => ?_)
      · rw [e]
        show XJ E (wX cy Ad σ) 20 [(2, .int 1), (0, .ref (Ad (14 + 3 * i))), (1, .null)] []
        refine x_aload_nN g 2 dX2_send_20 rfl rfl ?_
        refine x_ifnonnullN g dX2_send_21 ?_
        refine x_iconst g 0 dX2_send_24 (by decide) ?_
        refine x_goto g 36 dX2_send_25 (by decide) ?_
        refine x_istore_n (lv' := [(3, .int 0), (2, .int 1), (0, .ref (Ad (14 + 3 * i))), (1, .null)]) g dX2_send_36 rfl (by decide) rfl ?_
        refine x_iload_n g 1 dX2_send_37 rfl rfl ?_
        refine x_if_ne_t g 46 dX2_send_38 (by decide) (by decide) ?_
        refine x_aload_n g 2 dX2_send_46 rfl rfl ?_
        refine x_dup g dX2_send_47 rfl ?_
        refine x_get g fl_X2_47 (wx_C h_i) rfl dX2_send_48 ?_
        refine x_iload_n g 1 dX2_send_51 rfl rfl ?_
        refine x_isub g dX2_send_52 ?_
        refine x_putB g tyX2 fl_X2_47 tyX2_ok nmX2 (wx_C h_i) rfl rfl rfl (Nat.le_of_ble_eq_true rfl) (sx_C_8 h_i _) dX2_send_53 hf (fun σ2 hf => ?_)
        refine x_aload_n g 2 dX2_send_56 rfl rfl ?_
        refine x_dup g dX2_send_57 rfl ?_
        refine x_get g fl_X2_50 (wx_C h_i) rfl dX2_send_58 ?_
        refine x_iload_n g 1 dX2_send_61 rfl rfl ?_
        refine x_isub g dX2_send_62 ?_
        refine x_putB g tyX2 fl_X2_50 tyX2_ok nmX2 (wx_C h_i) rfl rfl rfl (Nat.le_of_ble_eq_true rfl) (sx_C_11 h_i _) dX2_send_63 hf (fun σ3 hf => ?_)
        refine x_aload_nN g 3 dX2_send_66 rfl rfl ?_
        refine x_ifnullN g 80 dX2_send_67 (by decide) ?_
        refine x_aload_n g 2 dX2_send_80 rfl rfl ?_
        refine x_get g fl_X2_15 (wx_C h_i) rfl dX2_send_81 ?_
        refine x_iconst g 0 dX2_send_84 (by decide) ?_
        refine x_iload_n g 1 dX2_send_85 rfl rfl ?_
        refine x_iload_n g 0 dX2_send_86 rfl rfl ?_
        obtain ⟨r4, hgr4, hf⟩ := obind hf
        refine x_callS g xl [.int 1, .int 0] [.int 0, .ref (Ad (14 + 3 * i + 2))] [.int r4, .int 0, .ref (Ad (14 + 3 * i + 2))] (c_X2_letterOf hA hgr4) mf_X2_letterOf sm_X2_letterOf ml_X2_88 (by decide) (by decide) rfl (Nat.le_of_ble_eq_true rfl) dX2_send_87 rfl rfl ?_
        refine x_iastB g (wx_Ct h_i) (sx_Ct h_i _ _) dX2_send_90 (chk_of (by decide) hf) (fun σ5 hf => ?_)
        cases hf
        exact x_vret g rfl ho dX2_send_91
      · rw [e]
        show XJ E (wX cy Ad σ) 20 [(2, .int 1), (0, .ref (Ad (14 + 3 * i))), (1, .ref (Ad (14 + 3 * j1)))] []
        refine x_aload_n g 2 dX2_send_20 rfl rfl ?_
        refine x_ifnonnull g 28 dX2_send_21 (by decide) ?_
        refine x_aload_n g 2 dX2_send_28 rfl rfl ?_
        refine x_get g fl_X2_56 (wx_C h_j1) rfl dX2_send_29 ?_
        refine x_iconst g 3 dX2_send_32 (by decide) ?_
        refine x_mmin g ml_X2_62 (by decide) (Nat.le_of_ble_eq_true rfl) dX2_send_33 ?_
        refine x_nami hf (fun y6 hf => ?_)
        refine x_istore_n (lv' := [(3, .int y6), (2, .int 1), (0, .ref (Ad (14 + 3 * i))), (1, .ref (Ad (14 + 3 * j1)))]) g dX2_send_36 rfl (by decide) rfl ?_
        refine x_iload_n g 1 dX2_send_37 rfl rfl ?_
        refine x_if_ne_t g 46 dX2_send_38 (by decide) (by decide) ?_
        refine x_aload_n g 2 dX2_send_46 rfl rfl ?_
        refine x_dup g dX2_send_47 rfl ?_
        refine x_get g fl_X2_47 (wx_C h_i) rfl dX2_send_48 ?_
        refine x_iload_n g 1 dX2_send_51 rfl rfl ?_
        refine x_isub g dX2_send_52 ?_
        refine x_putB g tyX2 fl_X2_47 tyX2_ok nmX2 (wx_C h_i) rfl rfl rfl (Nat.le_of_ble_eq_true rfl) (sx_C_8 h_i _) dX2_send_53 hf (fun σ7 hf => ?_)
        refine x_aload_n g 2 dX2_send_56 rfl rfl ?_
        refine x_dup g dX2_send_57 rfl ?_
        refine x_get g fl_X2_50 (wx_C h_i) rfl dX2_send_58 ?_
        refine x_iload_n g 1 dX2_send_61 rfl rfl ?_
        refine x_isub g dX2_send_62 ?_
        refine x_putB g tyX2 fl_X2_50 tyX2_ok nmX2 (wx_C h_i) rfl rfl rfl (Nat.le_of_ble_eq_true rfl) (sx_C_11 h_i _) dX2_send_63 hf (fun σ8 hf => ?_)
        refine x_aload_n g 3 dX2_send_66 rfl rfl ?_
        refine x_ifnull g dX2_send_67 ?_
        refine x_aload_n g 3 dX2_send_70 rfl rfl ?_
        refine x_dup g dX2_send_71 rfl ?_
        refine x_get g fl_X2_56 (wx_C h_j1) rfl dX2_send_72 ?_
        refine x_iload_n g 0 dX2_send_75 rfl rfl ?_
        refine x_isub g dX2_send_76 ?_
        refine x_putB g tyX2 fl_X2_56 tyX2_ok nmX2 (wx_C h_j1) rfl rfl rfl (Nat.le_of_ble_eq_true rfl) (sx_C_10 h_j1 _) dX2_send_77 hf (fun σ9 hf => ?_)
        refine x_aload_n g 2 dX2_send_80 rfl rfl ?_
        refine x_get g fl_X2_15 (wx_C h_i) rfl dX2_send_81 ?_
        refine x_iconst g 0 dX2_send_84 (by decide) ?_
        refine x_iload_n g 1 dX2_send_85 rfl rfl ?_
        refine x_iload_n g 0 dX2_send_86 rfl rfl ?_
        obtain ⟨r10, hgr10, hf⟩ := obind hf
        refine x_callS g xl [.int 1, .int y6] [.int 0, .ref (Ad (14 + 3 * i + 2))] [.int r10, .int 0, .ref (Ad (14 + 3 * i + 2))] (c_X2_letterOf hA hgr10) mf_X2_letterOf sm_X2_letterOf ml_X2_88 (by decide) (by decide) rfl (Nat.le_of_ble_eq_true rfl) dX2_send_87 rfl rfl ?_
        refine x_iastB g (wx_Ct h_i) (sx_Ct h_i _ _) dX2_send_90 (chk_of (by decide) hf) (fun σ11 hf => ?_)
        cases hf
        exact x_vret g rfl ho dX2_send_91
    · refine x_iconst g 0 dX2_send_18 (by decide) ?_
      refine x_istore_n (lv' := [(2, .int 0), (0, .ref (Ad (14 + 3 * i))), (1, vC Ad p1)]) g dX2_send_19 rfl (by decide) (by cases p1 <;> rfl) ?_
      refine onR_sp hf (fun e hf => ?_) (fun j12 h_j12 e hf => ?_)
      · rw [e]
        show XJ E (wX cy Ad σ) 20 [(2, .int 0), (0, .ref (Ad (14 + 3 * i))), (1, .null)] []
        refine x_aload_nN g 2 dX2_send_20 rfl rfl ?_
        refine x_ifnonnullN g dX2_send_21 ?_
        refine x_iconst g 0 dX2_send_24 (by decide) ?_
        refine x_goto g 36 dX2_send_25 (by decide) ?_
        refine x_istore_n (lv' := [(3, .int 0), (2, .int 0), (0, .ref (Ad (14 + 3 * i))), (1, .null)]) g dX2_send_36 rfl (by decide) rfl ?_
        refine x_iload_n g 1 dX2_send_37 rfl rfl ?_
        refine x_if_ne_f g 46 dX2_send_38 (by decide) (by decide) ?_
        refine x_iload_n g 0 dX2_send_41 rfl rfl ?_
        refine x_if_ne_f g 46 dX2_send_42 (by decide) (by decide) ?_
        cases hf
        exact x_vret g rfl ho dX2_send_45
      · rw [e]
        show XJ E (wX cy Ad σ) 20 [(2, .int 0), (0, .ref (Ad (14 + 3 * i))), (1, .ref (Ad (14 + 3 * j12)))] []
        refine x_aload_n g 2 dX2_send_20 rfl rfl ?_
        refine x_ifnonnull g 28 dX2_send_21 (by decide) ?_
        refine x_aload_n g 2 dX2_send_28 rfl rfl ?_
        refine x_get g fl_X2_56 (wx_C h_j12) rfl dX2_send_29 ?_
        refine x_iconst g 3 dX2_send_32 (by decide) ?_
        refine x_mmin g ml_X2_62 (by decide) (Nat.le_of_ble_eq_true rfl) dX2_send_33 ?_
        refine x_nami hf (fun y13 hf => ?_)
        refine x_istore_n (lv' := [(3, .int y13), (2, .int 0), (0, .ref (Ad (14 + 3 * i))), (1, .ref (Ad (14 + 3 * j12)))]) g dX2_send_36 rfl (by decide) rfl ?_
        refine x_iload_n g 1 dX2_send_37 rfl rfl ?_
        refine x_if_ne_f g 46 dX2_send_38 (by decide) (by decide) ?_
        refine x_iload_n g 0 dX2_send_41 rfl rfl ?_
        refine x_if_ne g 46 dX2_send_42 (by decide) hf (fun c42 hf => ?_) (fun c42 hf => ?_)
        · cases hf
          exact x_vret g rfl ho dX2_send_45
        · refine x_aload_n g 2 dX2_send_46 rfl rfl ?_
          refine x_dup g dX2_send_47 rfl ?_
          refine x_get g fl_X2_47 (wx_C h_i) rfl dX2_send_48 ?_
          refine x_iload_n g 1 dX2_send_51 rfl rfl ?_
          refine x_isub g dX2_send_52 ?_
          refine x_putB g tyX2 fl_X2_47 tyX2_ok nmX2 (wx_C h_i) rfl rfl rfl (Nat.le_of_ble_eq_true rfl) (sx_C_8 h_i _) dX2_send_53 hf (fun σ14 hf => ?_)
          refine x_aload_n g 2 dX2_send_56 rfl rfl ?_
          refine x_dup g dX2_send_57 rfl ?_
          refine x_get g fl_X2_50 (wx_C h_i) rfl dX2_send_58 ?_
          refine x_iload_n g 1 dX2_send_61 rfl rfl ?_
          refine x_isub g dX2_send_62 ?_
          refine x_putB g tyX2 fl_X2_50 tyX2_ok nmX2 (wx_C h_i) rfl rfl rfl (Nat.le_of_ble_eq_true rfl) (sx_C_11 h_i _) dX2_send_63 hf (fun σ15 hf => ?_)
          refine x_aload_n g 3 dX2_send_66 rfl rfl ?_
          refine x_ifnull g dX2_send_67 ?_
          refine x_aload_n g 3 dX2_send_70 rfl rfl ?_
          refine x_dup g dX2_send_71 rfl ?_
          refine x_get g fl_X2_56 (wx_C h_j12) rfl dX2_send_72 ?_
          refine x_iload_n g 0 dX2_send_75 rfl rfl ?_
          refine x_isub g dX2_send_76 ?_
          refine x_putB g tyX2 fl_X2_56 tyX2_ok nmX2 (wx_C h_j12) rfl rfl rfl (Nat.le_of_ble_eq_true rfl) (sx_C_10 h_j12 _) dX2_send_77 hf (fun σ16 hf => ?_)
          refine x_aload_n g 2 dX2_send_80 rfl rfl ?_
          refine x_get g fl_X2_15 (wx_C h_i) rfl dX2_send_81 ?_
          refine x_iconst g 0 dX2_send_84 (by decide) ?_
          refine x_iload_n g 1 dX2_send_85 rfl rfl ?_
          refine x_iload_n g 0 dX2_send_86 rfl rfl ?_
          obtain ⟨r17, hgr17, hf⟩ := obind hf
          refine x_callS g xl [.int 0, .int y13] [.int 0, .ref (Ad (14 + 3 * i + 2))] [.int r17, .int 0, .ref (Ad (14 + 3 * i + 2))] (c_X2_letterOf hA hgr17) mf_X2_letterOf sm_X2_letterOf ml_X2_88 (by decide) (by decide) rfl (Nat.le_of_ble_eq_true rfl) dX2_send_87 rfl rfl ?_
          refine x_iastB g (wx_Ct h_i) (sx_Ct h_i _ _) dX2_send_90 (chk_of (by decide) hf) (fun σ18 hf => ?_)
          cases hf
          exact x_vret g rfl ho dX2_send_91
  · refine x_iconst g 0 dX2_send_18 (by decide) ?_
    refine x_istore_n (lv' := [(2, .int 0), (0, .ref (Ad (14 + 3 * i))), (1, vC Ad p1)]) g dX2_send_19 rfl (by decide) (by cases p1 <;> rfl) ?_
    refine onR_sp hf (fun e hf => ?_) (fun j19 h_j19 e hf => ?_)
    · rw [e]
      show XJ E (wX cy Ad σ) 20 [(2, .int 0), (0, .ref (Ad (14 + 3 * i))), (1, .null)] []
      refine x_aload_nN g 2 dX2_send_20 rfl rfl ?_
      refine x_ifnonnullN g dX2_send_21 ?_
      refine x_iconst g 0 dX2_send_24 (by decide) ?_
      refine x_goto g 36 dX2_send_25 (by decide) ?_
      refine x_istore_n (lv' := [(3, .int 0), (2, .int 0), (0, .ref (Ad (14 + 3 * i))), (1, .null)]) g dX2_send_36 rfl (by decide) rfl ?_
      refine x_iload_n g 1 dX2_send_37 rfl rfl ?_
      refine x_if_ne_f g 46 dX2_send_38 (by decide) (by decide) ?_
      refine x_iload_n g 0 dX2_send_41 rfl rfl ?_
      refine x_if_ne_f g 46 dX2_send_42 (by decide) (by decide) ?_
      cases hf
      exact x_vret g rfl ho dX2_send_45
    · rw [e]
      show XJ E (wX cy Ad σ) 20 [(2, .int 0), (0, .ref (Ad (14 + 3 * i))), (1, .ref (Ad (14 + 3 * j19)))] []
      refine x_aload_n g 2 dX2_send_20 rfl rfl ?_
      refine x_ifnonnull g 28 dX2_send_21 (by decide) ?_
      refine x_aload_n g 2 dX2_send_28 rfl rfl ?_
      refine x_get g fl_X2_56 (wx_C h_j19) rfl dX2_send_29 ?_
      refine x_iconst g 3 dX2_send_32 (by decide) ?_
      refine x_mmin g ml_X2_62 (by decide) (Nat.le_of_ble_eq_true rfl) dX2_send_33 ?_
      refine x_nami hf (fun y20 hf => ?_)
      refine x_istore_n (lv' := [(3, .int y20), (2, .int 0), (0, .ref (Ad (14 + 3 * i))), (1, .ref (Ad (14 + 3 * j19)))]) g dX2_send_36 rfl (by decide) rfl ?_
      refine x_iload_n g 1 dX2_send_37 rfl rfl ?_
      refine x_if_ne_f g 46 dX2_send_38 (by decide) (by decide) ?_
      refine x_iload_n g 0 dX2_send_41 rfl rfl ?_
      refine x_if_ne g 46 dX2_send_42 (by decide) hf (fun c42 hf => ?_) (fun c42 hf => ?_)
      · cases hf
        exact x_vret g rfl ho dX2_send_45
      · refine x_aload_n g 2 dX2_send_46 rfl rfl ?_
        refine x_dup g dX2_send_47 rfl ?_
        refine x_get g fl_X2_47 (wx_C h_i) rfl dX2_send_48 ?_
        refine x_iload_n g 1 dX2_send_51 rfl rfl ?_
        refine x_isub g dX2_send_52 ?_
        refine x_putB g tyX2 fl_X2_47 tyX2_ok nmX2 (wx_C h_i) rfl rfl rfl (Nat.le_of_ble_eq_true rfl) (sx_C_8 h_i _) dX2_send_53 hf (fun σ21 hf => ?_)
        refine x_aload_n g 2 dX2_send_56 rfl rfl ?_
        refine x_dup g dX2_send_57 rfl ?_
        refine x_get g fl_X2_50 (wx_C h_i) rfl dX2_send_58 ?_
        refine x_iload_n g 1 dX2_send_61 rfl rfl ?_
        refine x_isub g dX2_send_62 ?_
        refine x_putB g tyX2 fl_X2_50 tyX2_ok nmX2 (wx_C h_i) rfl rfl rfl (Nat.le_of_ble_eq_true rfl) (sx_C_11 h_i _) dX2_send_63 hf (fun σ22 hf => ?_)
        refine x_aload_n g 3 dX2_send_66 rfl rfl ?_
        refine x_ifnull g dX2_send_67 ?_
        refine x_aload_n g 3 dX2_send_70 rfl rfl ?_
        refine x_dup g dX2_send_71 rfl ?_
        refine x_get g fl_X2_56 (wx_C h_j19) rfl dX2_send_72 ?_
        refine x_iload_n g 0 dX2_send_75 rfl rfl ?_
        refine x_isub g dX2_send_76 ?_
        refine x_putB g tyX2 fl_X2_56 tyX2_ok nmX2 (wx_C h_j19) rfl rfl rfl (Nat.le_of_ble_eq_true rfl) (sx_C_10 h_j19 _) dX2_send_77 hf (fun σ23 hf => ?_)
        refine x_aload_n g 2 dX2_send_80 rfl rfl ?_
        refine x_get g fl_X2_15 (wx_C h_i) rfl dX2_send_81 ?_
        refine x_iconst g 0 dX2_send_84 (by decide) ?_
        refine x_iload_n g 1 dX2_send_85 rfl rfl ?_
        refine x_iload_n g 0 dX2_send_86 rfl rfl ?_
        obtain ⟨r24, hgr24, hf⟩ := obind hf
        refine x_callS g xl [.int 0, .int y20] [.int 0, .ref (Ad (14 + 3 * i + 2))] [.int r24, .int 0, .ref (Ad (14 + 3 * i + 2))] (c_X2_letterOf hA hgr24) mf_X2_letterOf sm_X2_letterOf ml_X2_88 (by decide) (by decide) rfl (Nat.le_of_ble_eq_true rfl) dX2_send_87 rfl rfl ?_
        refine x_iastB g (wx_Ct h_i) (sx_Ct h_i _ _) dX2_send_90 (chk_of (by decide) hf) (fun σ25 hf => ?_)
        cases hf
        exact x_vret g rfl ho dX2_send_91
/-! SlotChip$Traffic.sendLetters()V -/
def f_X10_sendLetters_L10b (v1 : Int32) (K10 : St → Int32 → Option St) (σ : St) (v2 : Int32) : Option St :=
  if v2 < 8 then
    ((f_X3_find σ v2).bind fun r2 =>
    onR 8 r2
      (K10 σ (v2 + 1))
      (fun j3 =>
        (f_X2_hasStart σ j3 v1).bind fun r4 =>
        if r4 = 0 then
          K10 σ (v2 + 1)
        else
          ((f_X3_find σ (σ.1 2 j3 7)).bind fun r5 =>
          onR 8 r5
            ((f_X2_send σ j3 none).bind fun σ8 =>
            K10 σ8 (v2 + 1))
            (fun j6 =>
              (f_X2_send σ j3 (some j6)).bind fun σ10 =>
              K10 σ10 (v2 + 1)))))
  else
    some σ
def f_X10_sendLetters_L10 (v1 : Int32) : Nat → St → Int32 → Option St
  | 0 => fun _ _ => none
  | n + 1 => f_X10_sendLetters_L10b v1 (f_X10_sendLetters_L10 v1 n)
def f_X10_sendLetters (σ : St) : Option St :=
  (f_X1_slotNow σ).bind fun r1 =>
  f_X10_sendLetters_L10 r1 FU σ 0
set_option maxHeartbeats 4000000 in
set_option maxRecDepth 100000 in
theorem l_X10_sendLetters_L10 {E : EV} {l : Launch} {D : va_G} {cy : Nat → ClassId} {Ad : Nat → Nat} {out : St × Option Value} {o : St} (hA : AdOK 58 Ad) (xl : XL E l D (AdA 58 Ad)) (g : XG E (wX cy Ad) cy cX10_sendLetters RX10 4 2 none out) (v1 : Int32) (ho : out = (o, none)) : ∀ (n : Nat) (σ : St) (v2 : Int32), f_X10_sendLetters_L10 v1 n σ v2 = some o → XJ E (wX cy Ad σ) 10 [(0, .ref (Ad 57)), (1, .int v1), (2, .int v2)] [] := by
  intro n
  induction n with
  | zero => intro _ _ hf; cases hf
  | succ n ih10 =>
    intro σ v2 hf
    replace hf : f_X10_sendLetters_L10b v1 (f_X10_sendLetters_L10 v1 n) σ v2 = some o := hf
    unfold f_X10_sendLetters_L10b at hf
    refine x_iload_n g 2 dX10_sendLetters_10 rfl rfl ?_
    refine x_bipush g 8 dX10_sendLetters_11 (by decide) ?_
    refine x_icmp_ge g 58 dX10_sendLetters_13 (by decide) hf (fun c13 hf => ?_) (fun c13 hf => ?_)
    · refine x_aload_n g 0 dX10_sendLetters_16 rfl rfl ?_
      refine x_get g fl_X10_15 wx_57 rfl dX10_sendLetters_17 ?_
      refine x_iload_n g 2 dX10_sendLetters_20 rfl rfl ?_
      obtain ⟨r2, hgr2, hf⟩ := obind hf
      refine onR_sp hf (fun e hf => ?_) (fun j3 h_j3 e hf => ?_)
      · rw [e] at hgr2
        refine x_callV (r := (RX3, TX3, 1)) g xl [.int v2] [] [.null] (c_X3_find hA hgr2) mf_X3_find im_X3_find se_X3_find ml_X10_47 rfl wx_12 (by decide) (by decide) rfl (Nat.le_of_ble_eq_true rfl) dX10_sendLetters_21 rfl rfl ?_
        refine x_astore_nN (lv' := [(3, .null), (0, .ref (Ad 57)), (1, .int v1), (2, .int v2)]) g dX10_sendLetters_24 rfl (by decide) rfl ?_
        refine x_aload_nN g 0 dX10_sendLetters_25 rfl rfl ?_
        refine x_ifnullN g 52 dX10_sendLetters_26 (by decide) ?_
        refine x_iinc g 3 (v2 + 1) (lv' := [(2, .int (v2 + 1)), (3, .null), (0, .ref (Ad 57)), (1, .int v1)]) dX10_sendLetters_52 rfl (by rfl) (by decide) rfl ?_
        refine x_goto g 10 dX10_sendLetters_55 (by decide) ?_
        exact x_sub [2, 3, 0] rfl (ih10 _ _ hf)
      · rw [e] at hgr2
        refine x_callV (r := (RX3, TX3, 1)) g xl [.int v2] [] [.ref (Ad (14 + 3 * j3))] (c_X3_find hA hgr2) mf_X3_find im_X3_find se_X3_find ml_X10_47 rfl wx_12 (by decide) (by decide) rfl (Nat.le_of_ble_eq_true rfl) dX10_sendLetters_21 rfl rfl ?_
        refine x_astore_n (lv' := [(3, .ref (Ad (14 + 3 * j3))), (0, .ref (Ad 57)), (1, .int v1), (2, .int v2)]) g dX10_sendLetters_24 rfl (by decide) rfl ?_
        refine x_aload_n g 0 dX10_sendLetters_25 rfl rfl ?_
        refine x_ifnull g dX10_sendLetters_26 ?_
        refine x_aload_n g 0 dX10_sendLetters_29 rfl rfl ?_
        refine x_iload_n g 2 dX10_sendLetters_30 rfl rfl ?_
        obtain ⟨r4, hgr4, hf⟩ := obind hf
        refine x_callV (r := (RX2, TX2, 18)) g xl [.int v1] [] [.int r4] (c_X2_hasStart hA h_j3 hgr4) mf_X2_hasStart im_X2_hasStart se_X2_hasStart ml_X10_53 rfl (wx_C h_j3) (by decide) (by decide) rfl (Nat.le_of_ble_eq_true rfl) dX10_sendLetters_31 rfl rfl ?_
        refine x_if_eq g 52 dX10_sendLetters_34 (by decide) hf (fun c34 hf => ?_) (fun c34 hf => ?_)
        · refine x_iinc g 3 (v2 + 1) (lv' := [(2, .int (v2 + 1)), (3, .ref (Ad (14 + 3 * j3))), (0, .ref (Ad 57)), (1, .int v1)]) dX10_sendLetters_52 rfl (by rfl) (by decide) rfl ?_
          refine x_goto g 10 dX10_sendLetters_55 (by decide) ?_
          exact x_sub [2, 3, 0] rfl (ih10 _ _ hf)
        · refine x_aload_n g 0 dX10_sendLetters_37 rfl rfl ?_
          refine x_aload_n g 1 dX10_sendLetters_38 rfl rfl ?_
          refine x_get g fl_X10_15 wx_57 rfl dX10_sendLetters_39 ?_
          refine x_aload_n g 0 dX10_sendLetters_42 rfl rfl ?_
          refine x_get g fl_X10_59 (wx_C h_j3) rfl dX10_sendLetters_43 ?_
          obtain ⟨r5, hgr5, hf⟩ := obind hf
          refine onR_sp hf (fun e hf => ?_) (fun j6 h_j6 e hf => ?_)
          · rw [e] at hgr5
            refine x_callV (r := (RX3, TX3, 1)) g xl [.int (σ.1 2 j3 7)] [.ref (Ad (14 + 3 * j3))] [.null, .ref (Ad (14 + 3 * j3))] (c_X3_find hA hgr5) mf_X3_find im_X3_find se_X3_find ml_X10_47 rfl wx_12 (by decide) (by decide) rfl (Nat.le_of_ble_eq_true rfl) dX10_sendLetters_46 rfl rfl ?_
            obtain ⟨σ8, hgr7, hf⟩ := obind hf
            refine x_callV (r := (RX2, TX2, 18)) g xl [.null] [] [] (c_X2_send hA h_j3 hgr7) mf_X2_send im_X2_send se_X2_send ml_X10_62 rfl (wx_C h_j3) (by decide) (by decide) rfl (Nat.le_of_ble_eq_true rfl) dX10_sendLetters_49 rfl rfl ?_
            refine x_iinc g 3 (v2 + 1) (lv' := [(2, .int (v2 + 1)), (3, .ref (Ad (14 + 3 * j3))), (0, .ref (Ad 57)), (1, .int v1)]) dX10_sendLetters_52 rfl (by rfl) (by decide) rfl ?_
            refine x_goto g 10 dX10_sendLetters_55 (by decide) ?_
            exact x_sub [2, 3, 0] rfl (ih10 _ _ hf)
          · rw [e] at hgr5
            refine x_callV (r := (RX3, TX3, 1)) g xl [.int (σ.1 2 j3 7)] [.ref (Ad (14 + 3 * j3))] [.ref (Ad (14 + 3 * j6)), .ref (Ad (14 + 3 * j3))] (c_X3_find hA hgr5) mf_X3_find im_X3_find se_X3_find ml_X10_47 rfl wx_12 (by decide) (by decide) rfl (Nat.le_of_ble_eq_true rfl) dX10_sendLetters_46 rfl rfl ?_
            obtain ⟨σ10, hgr9, hf⟩ := obind hf
            refine x_callV (r := (RX2, TX2, 18)) g xl [.ref (Ad (14 + 3 * j6))] [] [] (c_X2_send hA h_j3 hgr9) mf_X2_send im_X2_send se_X2_send ml_X10_62 rfl (wx_C h_j3) (by decide) (by decide) rfl (Nat.le_of_ble_eq_true rfl) dX10_sendLetters_49 rfl rfl ?_
            refine x_iinc g 3 (v2 + 1) (lv' := [(2, .int (v2 + 1)), (3, .ref (Ad (14 + 3 * j3))), (0, .ref (Ad 57)), (1, .int v1)]) dX10_sendLetters_52 rfl (by rfl) (by decide) rfl ?_
            refine x_goto g 10 dX10_sendLetters_55 (by decide) ?_
            exact x_sub [2, 3, 0] rfl (ih10 _ _ hf)
    · cases hf
      exact x_vret g rfl ho dX10_sendLetters_58
set_option maxHeartbeats 4000000 in
set_option maxRecDepth 100000 in
theorem c_X10_sendLetters {l : Launch} {D : va_G} {cy : Nat → ClassId} {Ad : Nat → Nat} (hA : AdOK 58 Ad) {σ : St} {o : St} (hf : f_X10_sendLetters σ = some o) : CT l (wX cy Ad) D cy (AdA 58 Ad) yX10_sendLetters cX10_sendLetters 4 none 2 [.ref (Ad 57)] σ (o, none) := by
  refine CT.of mf_X10_sendLetters (wX_D hA) (Nat.le_of_ble_eq_true rfl) ?_
  intro E xl g
  have ho : ((o, none) : St × Option Value) = (o, none) := rfl
  unfold f_X10_sendLetters at hf
  show XJ E (wX cy Ad σ) 0 [(0, .ref (Ad 57))] []
  refine x_aload_n g 0 dX10_sendLetters_0 rfl rfl ?_
  refine x_get g fl_X10_9 wx_57 rfl dX10_sendLetters_1 ?_
  obtain ⟨r1, hgr1, hf⟩ := obind hf
  refine x_callV (r := (RX1, TX1, 6)) g xl [] [] [.int r1] (c_X1_slotNow hA hgr1) mf_X1_slotNow im_X1_slotNow se_X1_slotNow ml_X10_44 rfl wx_6 (by decide) (by decide) rfl (Nat.le_of_ble_eq_true rfl) dX10_sendLetters_4 rfl rfl ?_
  refine x_istore_n (lv' := [(1, .int r1), (0, .ref (Ad 57))]) g dX10_sendLetters_7 rfl (by decide) rfl ?_
  refine x_iconst g 0 dX10_sendLetters_8 (by decide) ?_
  refine x_istore_n (lv' := [(2, .int 0), (1, .int r1), (0, .ref (Ad 57))]) g dX10_sendLetters_9 rfl (by decide) rfl ?_
  exact x_sub [2, 1, 0] rfl (l_X10_sendLetters_L10 hA xl g _ ho FU _ _ hf)
/-! SlotChip$Strays.lookAhead()V -/
def f_X9_lookAhead_L2b (K2 : St → Int32 → Option St) (σ : St) (v1 : Int32) : Option St :=
  if v1 < (σ.1 8 0 0) then
    (if v1 < 12 then
      (chk (inb v1 12) (chk ((σ.2.1 (Int32.toNatClampNeg v1)) < 12) (
        chk (inb v1 12) (chk ((σ.2.1 (Int32.toNatClampNeg v1)) < 12) (
          (f_X8_linkAhead σ (σ.2.1 (Int32.toNatClampNeg v1))).bind fun r3 =>
          bnd (si σ 7 (σ.2.1 (Int32.toNatClampNeg v1)) 2 r3) fun σ4 =>
          K2 σ4 (v1 + 1))))))
    else
      some σ)
  else
    some σ
def f_X9_lookAhead_L2 : Nat → St → Int32 → Option St
  | 0 => fun _ _ => none
  | n + 1 => f_X9_lookAhead_L2b (f_X9_lookAhead_L2 n)
def f_X9_lookAhead (σ : St) : Option St :=
  f_X9_lookAhead_L2 FU σ 0
set_option maxHeartbeats 4000000 in
set_option maxRecDepth 100000 in
theorem l_X9_lookAhead_L2 {E : EV} {l : Launch} {D : va_G} {cy : Nat → ClassId} {Ad : Nat → Nat} {out : St × Option Value} {o : St} (hA : AdOK 58 Ad) (xl : XL E l D (AdA 58 Ad)) (g : XG E (wX cy Ad) cy cX9_lookAhead RX9 2 3 none out) (ho : out = (o, none)) : ∀ (n : Nat) (σ : St) (v1 : Int32), f_X9_lookAhead_L2 n σ v1 = some o → XJ E (wX cy Ad σ) 2 [(0, .ref (Ad 41)), (1, .int v1)] [] := by
  intro n
  induction n with
  | zero => intro _ _ hf; cases hf
  | succ n ih2 =>
    intro σ v1 hf
    replace hf : f_X9_lookAhead_L2b (f_X9_lookAhead_L2 n) σ v1 = some o := hf
    unfold f_X9_lookAhead_L2b at hf
    refine x_iload_n g 1 dX9_lookAhead_2 rfl rfl ?_
    refine x_aload_n g 0 dX9_lookAhead_3 rfl rfl ?_
    refine x_get g fl_X9_32 wx_41 rfl dX9_lookAhead_4 ?_
    refine x_icmp_ge g 47 dX9_lookAhead_7 (by decide) hf (fun c7 hf => ?_) (fun c7 hf => ?_)
    · refine x_iload_n g 1 dX9_lookAhead_10 rfl rfl ?_
      refine x_bipush g 12 dX9_lookAhead_11 (by decide) ?_
      refine x_icmp_ge g 47 dX9_lookAhead_13 (by decide) hf (fun c13 hf => ?_) (fun c13 hf => ?_)
      · refine x_aload_n g 0 dX9_lookAhead_16 rfl rfl ?_
        refine x_get g fl_X9_11 wx_41 rfl dX9_lookAhead_17 ?_
        refine x_iload_n g 1 dX9_lookAhead_20 rfl rfl ?_
        refine x_aald (b := Ad (45 + (σ.2.1 (Int32.toNatClampNeg v1)))) g (t0 := 3) rfl wx_42 rfl dX9_lookAhead_21 hf (fun hf => ?_)
        have hi1 := (chk_some hf).1
        replace hf := (chk_some hf).2
        refine x_aload_n g 0 dX9_lookAhead_22 rfl rfl ?_
        refine x_get g fl_X9_11 wx_41 rfl dX9_lookAhead_23 ?_
        refine x_iload_n g 1 dX9_lookAhead_26 rfl rfl ?_
        refine x_aald (b := Ad (45 + (σ.2.1 (Int32.toNatClampNeg v1)))) g (t0 := 3) rfl wx_42 rfl dX9_lookAhead_27 hf (fun hf => ?_)
        have hi2 := (chk_some hf).1
        replace hf := (chk_some hf).2
        refine x_aload_n g 0 dX9_lookAhead_28 rfl rfl ?_
        refine x_get g fl_X9_27 wx_41 rfl dX9_lookAhead_29 ?_
        refine x_get g fl_X9_51 wx_6 rfl dX9_lookAhead_32 ?_
        obtain ⟨r3, hgr3, hf⟩ := obind hf
        refine x_callV (r := (RX8, TX8, 7)) g xl [.ref (Ad 7)] [.ref (Ad (45 + (σ.2.1 (Int32.toNatClampNeg v1))))] [.int r3, .ref (Ad (45 + (σ.2.1 (Int32.toNatClampNeg v1))))] (c_X8_linkAhead hA hi2 hgr3) mf_X8_linkAhead im_X8_linkAhead se_X8_linkAhead ml_X9_76 rfl (wx_S hi2) (by decide) (by decide) rfl (Nat.le_of_ble_eq_true rfl) dX9_lookAhead_35 rfl rfl ?_
        refine x_putB g tyX8 fl_X9_80 tyX8_ok nmX8 (wx_S hi2) rfl rfl rfl (Nat.le_of_ble_eq_true rfl) (sx_S_2 hi2 _) dX9_lookAhead_38 hf (fun σ4 hf => ?_)
        refine x_iinc g 1 (v1 + 1) (lv' := [(1, .int (v1 + 1)), (0, .ref (Ad 41))]) dX9_lookAhead_41 rfl (by rfl) (by decide) rfl ?_
        refine x_goto g 2 dX9_lookAhead_44 (by decide) ?_
        exact x_sub [1, 0] rfl (ih2 _ _ hf)
      · cases hf
        exact x_vret g rfl ho dX9_lookAhead_47
    · cases hf
      exact x_vret g rfl ho dX9_lookAhead_47
set_option maxHeartbeats 4000000 in
set_option maxRecDepth 100000 in
theorem c_X9_lookAhead {l : Launch} {D : va_G} {cy : Nat → ClassId} {Ad : Nat → Nat} (hA : AdOK 58 Ad) {σ : St} {o : St} (hf : f_X9_lookAhead σ = some o) : CT l (wX cy Ad) D cy (AdA 58 Ad) yX9_lookAhead cX9_lookAhead 2 none 3 [.ref (Ad 41)] σ (o, none) := by
  refine CT.of mf_X9_lookAhead (wX_D hA) (Nat.le_of_ble_eq_true rfl) ?_
  intro E xl g
  have ho : ((o, none) : St × Option Value) = (o, none) := rfl
  unfold f_X9_lookAhead at hf
  show XJ E (wX cy Ad σ) 0 [(0, .ref (Ad 41))] []
  refine x_iconst g 0 dX9_lookAhead_0 (by decide) ?_
  refine x_istore_n (lv' := [(1, .int 0), (0, .ref (Ad 41))]) g dX9_lookAhead_1 rfl (by decide) rfl ?_
  exact x_sub [1, 0] rfl (l_X9_lookAhead_L2 hA xl g ho FU _ _ hf)
/-! SlotChip$Strays.isFirst(I)Z -/
def f_X9_isFirst_L14b (σ : St) (v1 : Int32) (i2 : Nat) (K14 : Int32 → Option Int32) (v3 : Int32) : Option Int32 :=
  if v3 < (σ.1 8 0 0) then
    (if v3 < 12 then
      (chk (inb v3 12) (chk ((σ.2.1 (Int32.toNatClampNeg v3)) < 12) (
        if (σ.1 7 (σ.2.1 (Int32.toNatClampNeg v3)) 0) = (σ.1 7 i2 0) then
          (if v3 < v1 then
            (if (σ.1 7 (σ.2.1 (Int32.toNatClampNeg v3)) 2) = (σ.1 7 i2 2) then
              some 0
            else
              K14 (v3 + 1))
          else
            (if (σ.1 7 (σ.2.1 (Int32.toNatClampNeg v3)) 2) = (σ.1 7 i2 2) then
              K14 (v3 + 1)
            else
              K14 (v3 + 1)))
        else
          (bnd (σ.1 7 (σ.2.1 (Int32.toNatClampNeg v3)) 0) fun y4 =>
          if (σ.1 7 (σ.2.1 (Int32.toNatClampNeg v3)) 2) = (σ.1 7 i2 2) then
            (if y4 = 0 then
              K14 (v3 + 1)
            else
              some 0)
          else
            K14 (v3 + 1)))))
    else
      some 1)
  else
    some 1
def f_X9_isFirst_L14 (σ : St) (v1 : Int32) (i2 : Nat) : Nat → Int32 → Option Int32
  | 0 => fun _ => none
  | n + 1 => f_X9_isFirst_L14b σ v1 i2 (f_X9_isFirst_L14 σ v1 i2 n)
def f_X9_isFirst (σ : St) (p1 : Int32) : Option Int32 :=
  (f_X9_find σ p1).bind fun r1 =>
  onR 12 r1
    (some 0)
    (fun j2 =>
      f_X9_isFirst_L14 σ p1 j2 FU 0)
set_option maxHeartbeats 4000000 in
set_option maxRecDepth 100000 in
theorem l_X9_isFirst_L14 {E : EV} {l : Launch} {D : va_G} {cy : Nat → ClassId} {Ad : Nat → Nat} {out : St × Option Value} {o : Int32} (hA : AdOK 58 Ad) (xl : XL E l D (AdA 58 Ad)) (g : XG E (wX cy Ad) cy cX9_isFirst RX9 6 1 (some .boolean) out) (σ : St) (v1 : Int32) (i2 : Nat) (ho : out = (σ, (some (.int o)))) (h_i2 : i2 < 12) : ∀ (n : Nat) (v3 : Int32), f_X9_isFirst_L14 σ v1 i2 n v3 = some o → XJ E (wX cy Ad σ) 14 [(0, .ref (Ad 41)), (1, .int v1), (2, .ref (Ad (45 + i2))), (3, .int v3)] [] := by
  intro n
  induction n with
  | zero => intro _ hf; cases hf
  | succ n ih14 =>
    intro v3 hf
    replace hf : f_X9_isFirst_L14b σ v1 i2 (f_X9_isFirst_L14 σ v1 i2 n) v3 = some o := hf
    unfold f_X9_isFirst_L14b at hf
    refine x_iload_n g 3 dX9_isFirst_14 rfl rfl ?_
    refine x_aload_n g 0 dX9_isFirst_15 rfl rfl ?_
    refine x_get g fl_X9_32 wx_41 rfl dX9_isFirst_16 ?_
    refine x_icmp_ge g 93 dX9_isFirst_19 (by decide) hf (fun c19 hf => ?_) (fun c19 hf => ?_)
    · refine x_iload_n g 3 dX9_isFirst_22 rfl rfl ?_
      refine x_bipush g 12 dX9_isFirst_23 (by decide) ?_
      refine x_icmp_ge g 93 dX9_isFirst_25 (by decide) hf (fun c25 hf => ?_) (fun c25 hf => ?_)
      · refine x_aload_n g 0 dX9_isFirst_28 rfl rfl ?_
        refine x_get g fl_X9_11 wx_41 rfl dX9_isFirst_29 ?_
        refine x_iload_n g 3 dX9_isFirst_32 rfl rfl ?_
        refine x_aald (b := Ad (45 + (σ.2.1 (Int32.toNatClampNeg v3)))) g (t0 := 3) rfl wx_42 rfl dX9_isFirst_33 hf (fun hf => ?_)
        have hi3 := (chk_some hf).1
        replace hf := (chk_some hf).2
        refine x_astore (lv' := [(4, .ref (Ad (45 + (σ.2.1 (Int32.toNatClampNeg v3))))), (0, .ref (Ad 41)), (1, .int v1), (2, .ref (Ad (45 + i2))), (3, .int v3)]) g dX9_isFirst_34 (by decide) rfl ?_
        refine x_aload g 0 dX9_isFirst_36 rfl ?_
        refine x_get g fl_X9_87 (wx_S hi3) rfl dX9_isFirst_38 ?_
        refine x_aload_n g 3 dX9_isFirst_41 rfl rfl ?_
        refine x_get g fl_X9_87 (wx_S h_i2) rfl dX9_isFirst_42 ?_
        refine x_icmp_ne g 61 dX9_isFirst_45 (by decide) hf (fun c45 hf => ?_) (fun c45 hf => ?_)
        · refine x_iload_n g 4 dX9_isFirst_48 rfl rfl ?_
          refine x_iload_n g 2 dX9_isFirst_49 rfl rfl ?_
          refine x_icmp_ge g 57 dX9_isFirst_50 (by decide) hf (fun c50 hf => ?_) (fun c50 hf => ?_)
          · refine x_iconst g 1 dX9_isFirst_53 (by decide) ?_
            refine x_goto g 66 dX9_isFirst_54 (by decide) ?_
            refine x_istore (lv' := [(5, .int 1), (4, .ref (Ad (45 + (σ.2.1 (Int32.toNatClampNeg v3))))), (0, .ref (Ad 41)), (1, .int v1), (2, .ref (Ad (45 + i2))), (3, .int v3)]) g dX9_isFirst_66 (by decide) rfl ?_
            refine x_aload g 1 dX9_isFirst_68 rfl ?_
            refine x_get g fl_X9_80 (wx_S hi3) rfl dX9_isFirst_70 ?_
            refine x_aload_n g 4 dX9_isFirst_73 rfl rfl ?_
            refine x_get g fl_X9_80 (wx_S h_i2) rfl dX9_isFirst_74 ?_
            refine x_icmp_ne g 87 dX9_isFirst_77 (by decide) hf (fun c77 hf => ?_) (fun c77 hf => ?_)
            · refine x_iload g 0 dX9_isFirst_80 rfl ?_
              refine x_if_eq_f g 87 dX9_isFirst_82 (by decide) (by decide) ?_
              refine x_iconst g 0 dX9_isFirst_85 (by decide) ?_
              cases hf
              exact x_zret g rfl (by decide) ho dX9_isFirst_86
            · refine x_iinc g 5 (v3 + 1) (lv' := [(3, .int (v3 + 1)), (5, .int 1), (4, .ref (Ad (45 + (σ.2.1 (Int32.toNatClampNeg v3))))), (0, .ref (Ad 41)), (1, .int v1), (2, .ref (Ad (45 + i2)))]) dX9_isFirst_87 rfl (by rfl) (by decide) rfl ?_
              refine x_goto g 14 dX9_isFirst_90 (by decide) ?_
              exact x_sub [3, 4, 5, 0] rfl (ih14 _ hf)
          · refine x_iconst g 0 dX9_isFirst_57 (by decide) ?_
            refine x_goto g 66 dX9_isFirst_58 (by decide) ?_
            refine x_istore (lv' := [(5, .int 0), (4, .ref (Ad (45 + (σ.2.1 (Int32.toNatClampNeg v3))))), (0, .ref (Ad 41)), (1, .int v1), (2, .ref (Ad (45 + i2))), (3, .int v3)]) g dX9_isFirst_66 (by decide) rfl ?_
            refine x_aload g 1 dX9_isFirst_68 rfl ?_
            refine x_get g fl_X9_80 (wx_S hi3) rfl dX9_isFirst_70 ?_
            refine x_aload_n g 4 dX9_isFirst_73 rfl rfl ?_
            refine x_get g fl_X9_80 (wx_S h_i2) rfl dX9_isFirst_74 ?_
            refine x_icmp_ne g 87 dX9_isFirst_77 (by decide) hf (fun c77 hf => ?_) (fun c77 hf => ?_)
            · refine x_iload g 0 dX9_isFirst_80 rfl ?_
              refine x_if_eq_t g 87 dX9_isFirst_82 (by decide) (by decide) ?_
              refine x_iinc g 5 (v3 + 1) (lv' := [(3, .int (v3 + 1)), (5, .int 0), (4, .ref (Ad (45 + (σ.2.1 (Int32.toNatClampNeg v3))))), (0, .ref (Ad 41)), (1, .int v1), (2, .ref (Ad (45 + i2)))]) dX9_isFirst_87 rfl (by rfl) (by decide) rfl ?_
              refine x_goto g 14 dX9_isFirst_90 (by decide) ?_
              exact x_sub [3, 4, 5, 0] rfl (ih14 _ hf)
            · refine x_iinc g 5 (v3 + 1) (lv' := [(3, .int (v3 + 1)), (5, .int 0), (4, .ref (Ad (45 + (σ.2.1 (Int32.toNatClampNeg v3))))), (0, .ref (Ad 41)), (1, .int v1), (2, .ref (Ad (45 + i2)))]) dX9_isFirst_87 rfl (by rfl) (by decide) rfl ?_
              refine x_goto g 14 dX9_isFirst_90 (by decide) ?_
              exact x_sub [3, 4, 5, 0] rfl (ih14 _ hf)
        · refine x_aload g 0 dX9_isFirst_61 rfl ?_
          refine x_get g fl_X9_87 (wx_S hi3) rfl dX9_isFirst_63 ?_
          refine x_nami hf (fun y4 hf => ?_)
          refine x_istore (lv' := [(5, .int y4), (4, .ref (Ad (45 + (σ.2.1 (Int32.toNatClampNeg v3))))), (0, .ref (Ad 41)), (1, .int v1), (2, .ref (Ad (45 + i2))), (3, .int v3)]) g dX9_isFirst_66 (by decide) rfl ?_
          refine x_aload g 1 dX9_isFirst_68 rfl ?_
          refine x_get g fl_X9_80 (wx_S hi3) rfl dX9_isFirst_70 ?_
          refine x_aload_n g 4 dX9_isFirst_73 rfl rfl ?_
          refine x_get g fl_X9_80 (wx_S h_i2) rfl dX9_isFirst_74 ?_
          refine x_icmp_ne g 87 dX9_isFirst_77 (by decide) hf (fun c77 hf => ?_) (fun c77 hf => ?_)
          · refine x_iload g 0 dX9_isFirst_80 rfl ?_
            refine x_if_eq g 87 dX9_isFirst_82 (by decide) hf (fun c82 hf => ?_) (fun c82 hf => ?_)
            · refine x_iinc g 5 (v3 + 1) (lv' := [(3, .int (v3 + 1)), (5, .int y4), (4, .ref (Ad (45 + (σ.2.1 (Int32.toNatClampNeg v3))))), (0, .ref (Ad 41)), (1, .int v1), (2, .ref (Ad (45 + i2)))]) dX9_isFirst_87 rfl (by rfl) (by decide) rfl ?_
              refine x_goto g 14 dX9_isFirst_90 (by decide) ?_
              exact x_sub [3, 4, 5, 0] rfl (ih14 _ hf)
            · refine x_iconst g 0 dX9_isFirst_85 (by decide) ?_
              cases hf
              exact x_zret g rfl (by decide) ho dX9_isFirst_86
          · refine x_iinc g 5 (v3 + 1) (lv' := [(3, .int (v3 + 1)), (5, .int y4), (4, .ref (Ad (45 + (σ.2.1 (Int32.toNatClampNeg v3))))), (0, .ref (Ad 41)), (1, .int v1), (2, .ref (Ad (45 + i2)))]) dX9_isFirst_87 rfl (by rfl) (by decide) rfl ?_
            refine x_goto g 14 dX9_isFirst_90 (by decide) ?_
            exact x_sub [3, 4, 5, 0] rfl (ih14 _ hf)
      · refine x_iconst g 1 dX9_isFirst_93 (by decide) ?_
        cases hf
        exact x_zret g rfl (by decide) ho dX9_isFirst_94
    · refine x_iconst g 1 dX9_isFirst_93 (by decide) ?_
      cases hf
      exact x_zret g rfl (by decide) ho dX9_isFirst_94
set_option maxHeartbeats 4000000 in
set_option maxRecDepth 100000 in
theorem c_X9_isFirst {l : Launch} {D : va_G} {cy : Nat → ClassId} {Ad : Nat → Nat} (hA : AdOK 58 Ad) {σ : St} {p1 : Int32} {o : Int32} (hf : f_X9_isFirst σ p1 = some o) : CT l (wX cy Ad) D cy (AdA 58 Ad) yX9_isFirst cX9_isFirst 6 (some .boolean) 1 [.ref (Ad 41), .int p1] σ (σ, (some (.int o))) := by
  refine CT.of mf_X9_isFirst (wX_D hA) (Nat.le_of_ble_eq_true rfl) ?_
  intro E xl g
  have ho : ((σ, (some (.int o))) : St × Option Value) = (σ, (some (.int o))) := rfl
  unfold f_X9_isFirst at hf
  show XJ E (wX cy Ad σ) 0 [(0, .ref (Ad 41)), (1, .int p1)] []
  refine x_aload_n g 0 dX9_isFirst_0 rfl rfl ?_
  refine x_iload_n g 1 dX9_isFirst_1 rfl rfl ?_
  obtain ⟨r1, hgr1, hf⟩ := obind hf
  refine onR_sp hf (fun e hf => ?_) (fun j2 h_j2 e hf => ?_)
  · rw [e] at hgr1
    refine x_callV (r := (RX9, TX9, 6)) g xl [.int p1] [] [.null] (c_X9_find hA hgr1) mf_X9_find im_X9_find se_X9_find ml_X9_83 rfl wx_41 (by decide) (by decide) rfl (Nat.le_of_ble_eq_true rfl) dX9_isFirst_2 rfl rfl ?_
    refine x_astore_nN (lv' := [(2, .null), (0, .ref (Ad 41)), (1, .int p1)]) g dX9_isFirst_5 rfl (by decide) rfl ?_
    refine x_aload_nN g 0 dX9_isFirst_6 rfl rfl ?_
    refine x_ifnonnullN g dX9_isFirst_7 ?_
    refine x_iconst g 0 dX9_isFirst_10 (by decide) ?_
    cases hf
    exact x_zret g rfl (by decide) ho dX9_isFirst_11
  · rw [e] at hgr1
    refine x_callV (r := (RX9, TX9, 6)) g xl [.int p1] [] [.ref (Ad (45 + j2))] (c_X9_find hA hgr1) mf_X9_find im_X9_find se_X9_find ml_X9_83 rfl wx_41 (by decide) (by decide) rfl (Nat.le_of_ble_eq_true rfl) dX9_isFirst_2 rfl rfl ?_
    refine x_astore_n (lv' := [(2, .ref (Ad (45 + j2))), (0, .ref (Ad 41)), (1, .int p1)]) g dX9_isFirst_5 rfl (by decide) rfl ?_
    refine x_aload_n g 0 dX9_isFirst_6 rfl rfl ?_
    refine x_ifnonnull g 12 dX9_isFirst_7 (by decide) ?_
    refine x_iconst g 0 dX9_isFirst_12 (by decide) ?_
    refine x_istore_n (lv' := [(3, .int 0), (2, .ref (Ad (45 + j2))), (0, .ref (Ad 41)), (1, .int p1)]) g dX9_isFirst_13 rfl (by decide) rfl ?_
    exact x_sub [2, 3, 1, 0] rfl (l_X9_isFirst_L14 hA xl g _ _ _ ho h_j2 FU _ hf)
/-! SlotChip$Circuit.hasLetterOn(I)Z -/
def f_X2_hasLetterOn_L2b (σ : St) (i0 : Nat) (v1 : Int32) (K2 : Int32 → Option Int32) (v2 : Int32) : Option Int32 :=
  (f_X2_places σ i0).bind fun r1 =>
  if v2 < r1 then
    (chk (inb v2 8) (
      if (σ.1 17 i0 (Int32.toNatClampNeg v2)) = v1 then
        (chk (inb v2 8) (
          if (σ.1 18 i0 (Int32.toNatClampNeg v2)) = (-1) then
            K2 (v2 + 1)
          else
            some 1))
      else
        K2 (v2 + 1)))
  else
    some 0
def f_X2_hasLetterOn_L2 (σ : St) (i0 : Nat) (v1 : Int32) : Nat → Int32 → Option Int32
  | 0 => fun _ => none
  | n + 1 => f_X2_hasLetterOn_L2b σ i0 v1 (f_X2_hasLetterOn_L2 σ i0 v1 n)
def f_X2_hasLetterOn (σ : St) (i : Nat) (p1 : Int32) : Option Int32 :=
  f_X2_hasLetterOn_L2 σ i p1 FU 0
set_option maxHeartbeats 4000000 in
set_option maxRecDepth 100000 in
theorem l_X2_hasLetterOn_L2 {E : EV} {l : Launch} {D : va_G} {cy : Nat → ClassId} {Ad : Nat → Nat} {out : St × Option Value} {o : Int32} (hA : AdOK 58 Ad) (xl : XL E l D (AdA 58 Ad)) (g : XG E (wX cy Ad) cy cX2_hasLetterOn RX2 3 2 (some .boolean) out) (σ : St) (i0 : Nat) (v1 : Int32) (ho : out = (σ, (some (.int o)))) (h_i0 : i0 < 8) : ∀ (n : Nat) (v2 : Int32), f_X2_hasLetterOn_L2 σ i0 v1 n v2 = some o → XJ E (wX cy Ad σ) 2 [(0, .ref (Ad (14 + 3 * i0))), (1, .int v1), (2, .int v2)] [] := by
  intro n
  induction n with
  | zero => intro _ hf; cases hf
  | succ n ih2 =>
    intro v2 hf
    replace hf : f_X2_hasLetterOn_L2b σ i0 v1 (f_X2_hasLetterOn_L2 σ i0 v1 n) v2 = some o := hf
    unfold f_X2_hasLetterOn_L2b at hf
    refine x_iload_n g 2 dX2_hasLetterOn_2 rfl rfl ?_
    refine x_aload_n g 0 dX2_hasLetterOn_3 rfl rfl ?_
    obtain ⟨r1, hgr1, hf⟩ := obind hf
    refine x_callV (r := (RX2, TX2, 18)) g xl [] [.int v2] [.int r1, .int v2] (c_X2_places hA h_i0 hgr1) mf_X2_places im_X2_places se_X2_places ml_X2_84 rfl (wx_C h_i0) (by decide) (by decide) rfl (Nat.le_of_ble_eq_true rfl) dX2_hasLetterOn_4 rfl rfl ?_
    refine x_icmp_ge g 38 dX2_hasLetterOn_7 (by decide) hf (fun c7 hf => ?_) (fun c7 hf => ?_)
    · refine x_aload_n g 0 dX2_hasLetterOn_10 rfl rfl ?_
      refine x_get g fl_X2_9 (wx_C h_i0) rfl dX2_hasLetterOn_11 ?_
      refine x_iload_n g 2 dX2_hasLetterOn_14 rfl rfl ?_
      refine x_iald g (wx_Cl h_i0) dX2_hasLetterOn_15 hf (fun hf => ?_)
      refine x_iload_n g 1 dX2_hasLetterOn_16 rfl rfl ?_
      refine x_icmp_ne g 32 dX2_hasLetterOn_17 (by decide) hf (fun c17 hf => ?_) (fun c17 hf => ?_)
      · refine x_aload_n g 0 dX2_hasLetterOn_20 rfl rfl ?_
        refine x_get g fl_X2_15 (wx_C h_i0) rfl dX2_hasLetterOn_21 ?_
        refine x_iload_n g 2 dX2_hasLetterOn_24 rfl rfl ?_
        refine x_iald g (wx_Ct h_i0) dX2_hasLetterOn_25 hf (fun hf => ?_)
        refine x_iconst g (-1) dX2_hasLetterOn_26 (by decide) ?_
        refine x_icmp_eq g 32 dX2_hasLetterOn_27 (by decide) hf (fun c27 hf => ?_) (fun c27 hf => ?_)
        · refine x_iinc g 2 (v2 + 1) (lv' := [(2, .int (v2 + 1)), (0, .ref (Ad (14 + 3 * i0))), (1, .int v1)]) dX2_hasLetterOn_32 rfl (by rfl) (by decide) rfl ?_
          refine x_goto g 2 dX2_hasLetterOn_35 (by decide) ?_
          exact x_sub [1, 2, 0] rfl (ih2 _ hf)
        · refine x_iconst g 1 dX2_hasLetterOn_30 (by decide) ?_
          cases hf
          exact x_zret g rfl (by decide) ho dX2_hasLetterOn_31
      · refine x_iinc g 2 (v2 + 1) (lv' := [(2, .int (v2 + 1)), (0, .ref (Ad (14 + 3 * i0))), (1, .int v1)]) dX2_hasLetterOn_32 rfl (by rfl) (by decide) rfl ?_
        refine x_goto g 2 dX2_hasLetterOn_35 (by decide) ?_
        exact x_sub [1, 2, 0] rfl (ih2 _ hf)
    · refine x_iconst g 0 dX2_hasLetterOn_38 (by decide) ?_
      cases hf
      exact x_zret g rfl (by decide) ho dX2_hasLetterOn_39
set_option maxHeartbeats 4000000 in
set_option maxRecDepth 100000 in
theorem c_X2_hasLetterOn {l : Launch} {D : va_G} {cy : Nat → ClassId} {Ad : Nat → Nat} (hA : AdOK 58 Ad) {σ : St} {i : Nat} {p1 : Int32} (h_i : i < 8) {o : Int32} (hf : f_X2_hasLetterOn σ i p1 = some o) : CT l (wX cy Ad) D cy (AdA 58 Ad) yX2_hasLetterOn cX2_hasLetterOn 3 (some .boolean) 2 [.ref (Ad (14 + 3 * i)), .int p1] σ (σ, (some (.int o))) := by
  refine CT.of mf_X2_hasLetterOn (wX_D hA) (Nat.le_of_ble_eq_true rfl) ?_
  intro E xl g
  have ho : ((σ, (some (.int o))) : St × Option Value) = (σ, (some (.int o))) := rfl
  unfold f_X2_hasLetterOn at hf
  show XJ E (wX cy Ad σ) 0 [(0, .ref (Ad (14 + 3 * i))), (1, .int p1)] []
  refine x_iconst g 0 dX2_hasLetterOn_0 (by decide) ?_
  refine x_istore_n (lv' := [(2, .int 0), (0, .ref (Ad (14 + 3 * i))), (1, .int p1)]) g dX2_hasLetterOn_1 rfl (by decide) rfl ?_
  exact x_sub [1, 2, 0] rfl (l_X2_hasLetterOn_L2 hA xl g _ _ _ ho h_i FU _ hf)
/-! SlotChip$Traffic.isFree(I)Z -/
def f_X10_isFree (σ : St) (p1 : Int32) : Option Int32 :=
  (f_X1_isBroken σ p1).bind fun r1 =>
  if r1 = 0 then
    ((f_X1_slotNow σ).bind fun r2 =>
    (f_X1_ownerOf σ p1 r2).bind fun r3 =>
    (f_X3_find σ r3).bind fun r4 =>
    onR 8 r4
      (some 1)
      (fun j5 =>
        if (σ.1 2 j5 2) = 4 then
          some 0
        else
          ((f_X2_hasLetterOn σ j5 p1).bind fun r6 =>
          if r6 = 0 then
            some 1
          else
            some 0)))
  else
    some 0
set_option maxHeartbeats 4000000 in
set_option maxRecDepth 100000 in
theorem c_X10_isFree {l : Launch} {D : va_G} {cy : Nat → ClassId} {Ad : Nat → Nat} (hA : AdOK 58 Ad) {σ : St} {p1 : Int32} {o : Int32} (hf : f_X10_isFree σ p1 = some o) : CT l (wX cy Ad) D cy (AdA 58 Ad) yX10_isFree cX10_isFree 3 (some .boolean) 3 [.ref (Ad 57), .int p1] σ (σ, (some (.int o))) := by
  refine CT.of mf_X10_isFree (wX_D hA) (Nat.le_of_ble_eq_true rfl) ?_
  intro E xl g
  have ho : ((σ, (some (.int o))) : St × Option Value) = (σ, (some (.int o))) := rfl
  unfold f_X10_isFree at hf
  show XJ E (wX cy Ad σ) 0 [(0, .ref (Ad 57)), (1, .int p1)] []
  refine x_aload_n g 0 dX10_isFree_0 rfl rfl ?_
  refine x_get g fl_X10_9 wx_57 rfl dX10_isFree_1 ?_
  refine x_iload_n g 1 dX10_isFree_4 rfl rfl ?_
  obtain ⟨r1, hgr1, hf⟩ := obind hf
  refine x_callV (r := (RX1, TX1, 6)) g xl [.int p1] [] [.int r1] (c_X1_isBroken hA hgr1) mf_X1_isBroken im_X1_isBroken se_X1_isBroken ml_X10_98 rfl wx_6 (by decide) (by decide) rfl (Nat.le_of_ble_eq_true rfl) dX10_isFree_5 rfl rfl ?_
  refine x_if_eq g 13 dX10_isFree_8 (by decide) hf (fun c8 hf => ?_) (fun c8 hf => ?_)
  · refine x_aload_n g 0 dX10_isFree_13 rfl rfl ?_
    refine x_get g fl_X10_15 wx_57 rfl dX10_isFree_14 ?_
    refine x_aload_n g 0 dX10_isFree_17 rfl rfl ?_
    refine x_get g fl_X10_9 wx_57 rfl dX10_isFree_18 ?_
    refine x_iload_n g 1 dX10_isFree_21 rfl rfl ?_
    refine x_aload_n g 0 dX10_isFree_22 rfl rfl ?_
    refine x_get g fl_X10_9 wx_57 rfl dX10_isFree_23 ?_
    obtain ⟨r2, hgr2, hf⟩ := obind hf
    refine x_callV (r := (RX1, TX1, 6)) g xl [] [.int p1, .ref (Ad 6), .ref (Ad 12)] [.int r2, .int p1, .ref (Ad 6), .ref (Ad 12)] (c_X1_slotNow hA hgr2) mf_X1_slotNow im_X1_slotNow se_X1_slotNow ml_X10_44 rfl wx_6 (by decide) (by decide) rfl (Nat.le_of_ble_eq_true rfl) dX10_isFree_26 rfl rfl ?_
    obtain ⟨r3, hgr3, hf⟩ := obind hf
    refine x_callV (r := (RX1, TX1, 6)) g xl [.int p1, .int r2] [.ref (Ad 12)] [.int r3, .ref (Ad 12)] (c_X1_ownerOf hA hgr3) mf_X1_ownerOf im_X1_ownerOf se_X1_ownerOf ml_X10_101 rfl wx_6 (by decide) (by decide) rfl (Nat.le_of_ble_eq_true rfl) dX10_isFree_29 rfl rfl ?_
    obtain ⟨r4, hgr4, hf⟩ := obind hf
    refine onR_sp hf (fun e hf => ?_) (fun j5 h_j5 e hf => ?_)
    · rw [e] at hgr4
      refine x_callV (r := (RX3, TX3, 1)) g xl [.int r3] [] [.null] (c_X3_find hA hgr4) mf_X3_find im_X3_find se_X3_find ml_X10_47 rfl wx_12 (by decide) (by decide) rfl (Nat.le_of_ble_eq_true rfl) dX10_isFree_32 rfl rfl ?_
      refine x_astore_nN (lv' := [(2, .null), (0, .ref (Ad 57)), (1, .int p1)]) g dX10_isFree_35 rfl (by decide) rfl ?_
      refine x_aload_nN g 0 dX10_isFree_36 rfl rfl ?_
      refine x_ifnullN g 56 dX10_isFree_37 (by decide) ?_
      refine x_iconst g 1 dX10_isFree_56 (by decide) ?_
      refine x_goto g 61 dX10_isFree_57 (by decide) ?_
      cases hf
      exact x_zret g rfl (by decide) ho dX10_isFree_61
    · rw [e] at hgr4
      refine x_callV (r := (RX3, TX3, 1)) g xl [.int r3] [] [.ref (Ad (14 + 3 * j5))] (c_X3_find hA hgr4) mf_X3_find im_X3_find se_X3_find ml_X10_47 rfl wx_12 (by decide) (by decide) rfl (Nat.le_of_ble_eq_true rfl) dX10_isFree_32 rfl rfl ?_
      refine x_astore_n (lv' := [(2, .ref (Ad (14 + 3 * j5))), (0, .ref (Ad 57)), (1, .int p1)]) g dX10_isFree_35 rfl (by decide) rfl ?_
      refine x_aload_n g 0 dX10_isFree_36 rfl rfl ?_
      refine x_ifnull g dX10_isFree_37 ?_
      refine x_aload_n g 0 dX10_isFree_40 rfl rfl ?_
      refine x_get g fl_X10_105 (wx_C h_j5) rfl dX10_isFree_41 ?_
      refine x_iconst g 4 dX10_isFree_44 (by decide) ?_
      refine x_icmp_eq g 60 dX10_isFree_45 (by decide) hf (fun c45 hf => ?_) (fun c45 hf => ?_)
      · refine x_iconst g 0 dX10_isFree_60 (by decide) ?_
        cases hf
        exact x_zret g rfl (by decide) ho dX10_isFree_61
      · refine x_aload_n g 0 dX10_isFree_48 rfl rfl ?_
        refine x_iload_n g 2 dX10_isFree_49 rfl rfl ?_
        obtain ⟨r6, hgr6, hf⟩ := obind hf
        refine x_callV (r := (RX2, TX2, 18)) g xl [.int p1] [] [.int r6] (c_X2_hasLetterOn hA h_j5 hgr6) mf_X2_hasLetterOn im_X2_hasLetterOn se_X2_hasLetterOn ml_X10_108 rfl (wx_C h_j5) (by decide) (by decide) rfl (Nat.le_of_ble_eq_true rfl) dX10_isFree_50 rfl rfl ?_
        refine x_if_ne g 60 dX10_isFree_53 (by decide) hf (fun c53 hf => ?_) (fun c53 hf => ?_)
        · refine x_iconst g 1 dX10_isFree_56 (by decide) ?_
          refine x_goto g 61 dX10_isFree_57 (by decide) ?_
          cases hf
          exact x_zret g rfl (by decide) ho dX10_isFree_61
        · refine x_iconst g 0 dX10_isFree_60 (by decide) ?_
          cases hf
          exact x_zret g rfl (by decide) ho dX10_isFree_61
  · refine x_iconst g 0 dX10_isFree_11 (by decide) ?_
    cases hf
    exact x_zret g rfl (by decide) ho dX10_isFree_12
/-! SlotChip$Board.use(I)V -/
def f_X1_use (σ : St) (p1 : Int32) : Option St :=
  (f_X11_isLinkNumber p1).bind fun r1 =>
  if r1 = 0 then
    some σ
  else
    (chk (inb p1 54) (
      chk (inb p1 54) (
        bnd (si σ 15 0 (Int32.toNatClampNeg p1) ((σ.1 15 0 (Int32.toNatClampNeg p1)) + 1)) fun σ2 =>
        some σ2)))
set_option maxHeartbeats 4000000 in
set_option maxRecDepth 100000 in
theorem c_X1_use {l : Launch} {D : va_G} {cy : Nat → ClassId} {Ad : Nat → Nat} (hA : AdOK 58 Ad) {σ : St} {p1 : Int32} {o : St} (hf : f_X1_use σ p1 = some o) : CT l (wX cy Ad) D cy (AdA 58 Ad) yX1_use cX1_use 2 none 1 [.ref (Ad 6), .int p1] σ (o, none) := by
  refine CT.of mf_X1_use (wX_D hA) (Nat.le_of_ble_eq_true rfl) ?_
  intro E xl g
  have ho : ((o, none) : St × Option Value) = (o, none) := rfl
  unfold f_X1_use at hf
  show XJ E (wX cy Ad σ) 0 [(0, .ref (Ad 6)), (1, .int p1)] []
  refine x_iload_n g 1 dX1_use_0 rfl rfl ?_
  obtain ⟨r1, hgr1, hf⟩ := obind hf
  refine x_callN g xl [.int p1] [] [.int r1] (c_X11_isLinkNumber hA hgr1) mf_X11_isLinkNumber sm_X11_isLinkNumber nl_X1_59 (by decide) (by decide) rfl (Nat.le_of_ble_eq_true rfl) dX1_use_1 rfl rfl ?_
  refine x_if_eq g 17 dX1_use_4 (by decide) hf (fun c4 hf => ?_) (fun c4 hf => ?_)
  · cases hf
    exact x_vret g rfl ho dX1_use_17
  · refine x_aload_n g 0 dX1_use_7 rfl rfl ?_
    refine x_get g fl_X1_22 wx_6 rfl dX1_use_8 ?_
    refine x_iload_n g 1 dX1_use_11 rfl rfl ?_
    refine x_dup2 g dX1_use_12 rfl rfl ?_
    refine x_iald g wx_10 dX1_use_13 hf (fun hf => ?_)
    refine x_iconst g 1 dX1_use_14 (by decide) ?_
    refine x_iadd g dX1_use_15 ?_
    refine x_iastB g wx_10 (sx_10 _ _) dX1_use_16 hf (fun σ2 hf => ?_)
    cases hf
    exact x_vret g rfl ho dX1_use_17
/-! SlotChip$Stray.goOn(LSlotChip$Grid;)V -/
def f_X8_goOn (σ : St) (i : Nat) : Option St :=
  (f_X4_endOf σ 1 (σ.1 7 i 2)).bind fun r1 =>
  bnd (si σ 7 i 5 r1) fun σ2 =>
  if (σ2.1 7 i 5) = (-1) then
    (bnd (si σ2 7 i 1 1) fun σ3 =>
    some σ3)
  else
    (bnd (si σ2 7 i 1 0) fun σ4 =>
    some σ4)
set_option maxHeartbeats 4000000 in
set_option maxRecDepth 100000 in
theorem c_X8_goOn {l : Launch} {D : va_G} {cy : Nat → ClassId} {Ad : Nat → Nat} (hA : AdOK 58 Ad) {σ : St} {i : Nat} (h_i : i < 12) {o : St} (hf : f_X8_goOn σ i = some o) : CT l (wX cy Ad) D cy (AdA 58 Ad) yX8_goOn cX8_goOn 2 none 3 [.ref (Ad (45 + i)), .ref (Ad 7)] σ (o, none) := by
  refine CT.of mf_X8_goOn (wX_D hA) (Nat.le_of_ble_eq_true rfl) ?_
  intro E xl g
  have ho : ((o, none) : St × Option Value) = (o, none) := rfl
  unfold f_X8_goOn at hf
  show XJ E (wX cy Ad σ) 0 [(0, .ref (Ad (45 + i))), (1, .ref (Ad 7))] []
  refine x_aload_n g 0 dX8_goOn_0 rfl rfl ?_
  refine x_aload_n g 1 dX8_goOn_1 rfl rfl ?_
  refine x_aload_n g 0 dX8_goOn_2 rfl rfl ?_
  refine x_get g fl_X8_63 (wx_S h_i) rfl dX8_goOn_3 ?_
  obtain ⟨r1, hgr1, hf⟩ := obind hf
  refine x_callV (r := (RX4, TX4, 3)) g xl [.int (σ.1 7 i 2)] [.ref (Ad (45 + i))] [.int r1, .ref (Ad (45 + i))] (c_X4_endOf hA (by decide) hgr1) mf_X4_endOf im_X4_endOf se_X4_endOf ml_X8_66 rfl wx_7 (by decide) (by decide) rfl (Nat.le_of_ble_eq_true rfl) dX8_goOn_6 rfl rfl ?_
  refine x_putB g tyX8 fl_X8_25 tyX8_ok nmX8 (wx_S h_i) rfl rfl rfl (Nat.le_of_ble_eq_true rfl) (sx_S_5 h_i _) dX8_goOn_9 hf (fun σ2 hf => ?_)
  refine x_aload_n g 0 dX8_goOn_12 rfl rfl ?_
  refine x_aload_n g 0 dX8_goOn_13 rfl rfl ?_
  refine x_get g fl_X8_25 (wx_S h_i) rfl dX8_goOn_14 ?_
  refine x_iconst g (-1) dX8_goOn_17 (by decide) ?_
  refine x_icmp_ne g 25 dX8_goOn_18 (by decide) hf (fun c18 hf => ?_) (fun c18 hf => ?_)
  · refine x_iconst g 1 dX8_goOn_21 (by decide) ?_
    refine x_goto g 26 dX8_goOn_22 (by decide) ?_
    refine x_putB g tyX8 fl_X8_22 tyX8_ok nmX8 (wx_S h_i) rfl rfl rfl (Nat.le_of_ble_eq_true rfl) (sx_S_1 h_i _) dX8_goOn_26 hf (fun σ3 hf => ?_)
    cases hf
    exact x_vret g rfl ho dX8_goOn_29
  · refine x_iconst g 0 dX8_goOn_25 (by decide) ?_
    refine x_putB g tyX8 fl_X8_22 tyX8_ok nmX8 (wx_S h_i) rfl rfl rfl (Nat.le_of_ble_eq_true rfl) (sx_S_1 h_i _) dX8_goOn_26 hf (fun σ4 hf => ?_)
    cases hf
    exact x_vret g rfl ho dX8_goOn_29
/-! SlotChip$Traffic.moveStrays()V -/
def f_X10_moveStrays_L9b (K9 : St → Int32 → Option St) (σ : St) (v1 : Int32) : Option St :=
  if v1 < (σ.1 8 0 0) then
    ((f_X9_find σ v1).bind fun r3 =>
    onR 12 r3
      (K9 σ (v1 + 1))
      (fun j4 =>
        (f_X9_isFirst σ v1).bind fun r5 =>
        if r5 = 0 then
          K9 σ (v1 + 1)
        else
          ((f_X10_isFree σ (σ.1 7 j4 2)).bind fun r6 =>
          if r6 = 0 then
            K9 σ (v1 + 1)
          else
            ((f_X1_use σ (σ.1 7 j4 2)).bind fun σ8 =>
            (f_X8_goOn σ8 j4).bind fun σ10 =>
            K9 σ10 (v1 + 1)))))
  else
    some σ
def f_X10_moveStrays_L9 : Nat → St → Int32 → Option St
  | 0 => fun _ _ => none
  | n + 1 => f_X10_moveStrays_L9b (f_X10_moveStrays_L9 n)
def f_X10_moveStrays (σ : St) : Option St :=
  (f_X9_lookAhead σ).bind fun σ2 =>
  f_X10_moveStrays_L9 FU σ2 0
set_option maxHeartbeats 4000000 in
set_option maxRecDepth 100000 in
theorem l_X10_moveStrays_L9 {E : EV} {l : Launch} {D : va_G} {cy : Nat → ClassId} {Ad : Nat → Nat} {out : St × Option Value} {o : St} (hA : AdOK 58 Ad) (xl : XL E l D (AdA 58 Ad)) (g : XG E (wX cy Ad) cy cX10_moveStrays RX10 3 4 none out) (ho : out = (o, none)) : ∀ (n : Nat) (σ : St) (v1 : Int32), f_X10_moveStrays_L9 n σ v1 = some o → XJ E (wX cy Ad σ) 9 [(0, .ref (Ad 57)), (1, .int v1)] [] := by
  intro n
  induction n with
  | zero => intro _ _ hf; cases hf
  | succ n ih9 =>
    intro σ v1 hf
    replace hf : f_X10_moveStrays_L9b (f_X10_moveStrays_L9 n) σ v1 = some o := hf
    unfold f_X10_moveStrays_L9b at hf
    refine x_iload_n g 1 dX10_moveStrays_9 rfl rfl ?_
    refine x_aload_n g 0 dX10_moveStrays_10 rfl rfl ?_
    refine x_get g fl_X10_19 wx_57 rfl dX10_moveStrays_11 ?_
    refine x_get g fl_X10_69 wx_41 rfl dX10_moveStrays_14 ?_
    refine x_icmp_ge g 83 dX10_moveStrays_17 (by decide) hf (fun c17 hf => ?_) (fun c17 hf => ?_)
    · refine x_aload_n g 0 dX10_moveStrays_20 rfl rfl ?_
      refine x_get g fl_X10_19 wx_57 rfl dX10_moveStrays_21 ?_
      refine x_iload_n g 1 dX10_moveStrays_24 rfl rfl ?_
      obtain ⟨r3, hgr3, hf⟩ := obind hf
      refine onR_sp hf (fun e hf => ?_) (fun j4 h_j4 e hf => ?_)
      · rw [e] at hgr3
        refine x_callV (r := (RX9, TX9, 6)) g xl [.int v1] [] [.null] (c_X9_find hA hgr3) mf_X9_find im_X9_find se_X9_find ml_X10_72 rfl wx_41 (by decide) (by decide) rfl (Nat.le_of_ble_eq_true rfl) dX10_moveStrays_25 rfl rfl ?_
        refine x_astore_nN (lv' := [(2, .null), (0, .ref (Ad 57)), (1, .int v1)]) g dX10_moveStrays_28 rfl (by decide) rfl ?_
        refine x_aload_nN g 0 dX10_moveStrays_29 rfl rfl ?_
        refine x_ifnullN g 77 dX10_moveStrays_30 (by decide) ?_
        refine x_iinc g 2 (v1 + 1) (lv' := [(1, .int (v1 + 1)), (2, .null), (0, .ref (Ad 57))]) dX10_moveStrays_77 rfl (by rfl) (by decide) rfl ?_
        refine x_goto g 9 dX10_moveStrays_80 (by decide) ?_
        exact x_sub [2, 0] rfl (ih9 _ _ hf)
      · rw [e] at hgr3
        refine x_callV (r := (RX9, TX9, 6)) g xl [.int v1] [] [.ref (Ad (45 + j4))] (c_X9_find hA hgr3) mf_X9_find im_X9_find se_X9_find ml_X10_72 rfl wx_41 (by decide) (by decide) rfl (Nat.le_of_ble_eq_true rfl) dX10_moveStrays_25 rfl rfl ?_
        refine x_astore_n (lv' := [(2, .ref (Ad (45 + j4))), (0, .ref (Ad 57)), (1, .int v1)]) g dX10_moveStrays_28 rfl (by decide) rfl ?_
        refine x_aload_n g 0 dX10_moveStrays_29 rfl rfl ?_
        refine x_ifnull g dX10_moveStrays_30 ?_
        refine x_aload_n g 1 dX10_moveStrays_33 rfl rfl ?_
        refine x_get g fl_X10_19 wx_57 rfl dX10_moveStrays_34 ?_
        refine x_iload_n g 2 dX10_moveStrays_37 rfl rfl ?_
        obtain ⟨r5, hgr5, hf⟩ := obind hf
        refine x_callV (r := (RX9, TX9, 6)) g xl [.int v1] [] [.int r5] (c_X9_isFirst hA hgr5) mf_X9_isFirst im_X9_isFirst se_X9_isFirst ml_X10_75 rfl wx_41 (by decide) (by decide) rfl (Nat.le_of_ble_eq_true rfl) dX10_moveStrays_38 rfl rfl ?_
        refine x_if_eq g 77 dX10_moveStrays_41 (by decide) hf (fun c41 hf => ?_) (fun c41 hf => ?_)
        · refine x_iinc g 2 (v1 + 1) (lv' := [(1, .int (v1 + 1)), (2, .ref (Ad (45 + j4))), (0, .ref (Ad 57))]) dX10_moveStrays_77 rfl (by rfl) (by decide) rfl ?_
          refine x_goto g 9 dX10_moveStrays_80 (by decide) ?_
          exact x_sub [2, 0] rfl (ih9 _ _ hf)
        · refine x_aload_n g 1 dX10_moveStrays_44 rfl rfl ?_
          refine x_aload_n g 0 dX10_moveStrays_45 rfl rfl ?_
          refine x_get g fl_X10_78 (wx_S h_j4) rfl dX10_moveStrays_46 ?_
          obtain ⟨r6, hgr6, hf⟩ := obind hf
          refine x_callV (r := (RX10, TX10, 3)) g xl [.int (σ.1 7 j4 2)] [] [.int r6] (c_X10_isFree hA hgr6) mf_X10_isFree im_X10_isFree se_X10_isFree ml_X10_83 rfl wx_57 (by decide) (by decide) rfl (Nat.le_of_ble_eq_true rfl) dX10_moveStrays_49 rfl rfl ?_
          refine x_if_eq g 77 dX10_moveStrays_52 (by decide) hf (fun c52 hf => ?_) (fun c52 hf => ?_)
          · refine x_iinc g 2 (v1 + 1) (lv' := [(1, .int (v1 + 1)), (2, .ref (Ad (45 + j4))), (0, .ref (Ad 57))]) dX10_moveStrays_77 rfl (by rfl) (by decide) rfl ?_
            refine x_goto g 9 dX10_moveStrays_80 (by decide) ?_
            exact x_sub [2, 0] rfl (ih9 _ _ hf)
          · refine x_aload_n g 1 dX10_moveStrays_55 rfl rfl ?_
            refine x_get g fl_X10_9 wx_57 rfl dX10_moveStrays_56 ?_
            refine x_aload_n g 0 dX10_moveStrays_59 rfl rfl ?_
            refine x_get g fl_X10_78 (wx_S h_j4) rfl dX10_moveStrays_60 ?_
            obtain ⟨σ8, hgr7, hf⟩ := obind hf
            refine x_callV (r := (RX1, TX1, 6)) g xl [.int (σ.1 7 j4 2)] [] [] (c_X1_use hA hgr7) mf_X1_use im_X1_use se_X1_use ml_X10_86 rfl wx_6 (by decide) (by decide) rfl (Nat.le_of_ble_eq_true rfl) dX10_moveStrays_63 rfl rfl ?_
            refine x_aload_n g 0 dX10_moveStrays_66 rfl rfl ?_
            refine x_aload_n g 1 dX10_moveStrays_67 rfl rfl ?_
            refine x_get g fl_X10_9 wx_57 rfl dX10_moveStrays_68 ?_
            refine x_get g fl_X10_90 wx_6 rfl dX10_moveStrays_71 ?_
            obtain ⟨σ10, hgr9, hf⟩ := obind hf
            refine x_callV (r := (RX8, TX8, 7)) g xl [.ref (Ad 7)] [] [] (c_X8_goOn hA h_j4 hgr9) mf_X8_goOn im_X8_goOn se_X8_goOn ml_X10_94 rfl (wx_S h_j4) (by decide) (by decide) rfl (Nat.le_of_ble_eq_true rfl) dX10_moveStrays_74 rfl rfl ?_
            refine x_iinc g 2 (v1 + 1) (lv' := [(1, .int (v1 + 1)), (2, .ref (Ad (45 + j4))), (0, .ref (Ad 57))]) dX10_moveStrays_77 rfl (by rfl) (by decide) rfl ?_
            refine x_goto g 9 dX10_moveStrays_80 (by decide) ?_
            exact x_sub [2, 0] rfl (ih9 _ _ hf)
    · cases hf
      exact x_vret g rfl ho dX10_moveStrays_83
set_option maxHeartbeats 4000000 in
set_option maxRecDepth 100000 in
theorem c_X10_moveStrays {l : Launch} {D : va_G} {cy : Nat → ClassId} {Ad : Nat → Nat} (hA : AdOK 58 Ad) {σ : St} {o : St} (hf : f_X10_moveStrays σ = some o) : CT l (wX cy Ad) D cy (AdA 58 Ad) yX10_moveStrays cX10_moveStrays 3 none 4 [.ref (Ad 57)] σ (o, none) := by
  refine CT.of mf_X10_moveStrays (wX_D hA) (Nat.le_of_ble_eq_true rfl) ?_
  intro E xl g
  have ho : ((o, none) : St × Option Value) = (o, none) := rfl
  unfold f_X10_moveStrays at hf
  show XJ E (wX cy Ad σ) 0 [(0, .ref (Ad 57))] []
  refine x_aload_n g 0 dX10_moveStrays_0 rfl rfl ?_
  refine x_get g fl_X10_19 wx_57 rfl dX10_moveStrays_1 ?_
  obtain ⟨σ2, hgr1, hf⟩ := obind hf
  refine x_callV (r := (RX9, TX9, 6)) g xl [] [] [] (c_X9_lookAhead hA hgr1) mf_X9_lookAhead im_X9_lookAhead se_X9_lookAhead ml_X10_66 rfl wx_41 (by decide) (by decide) rfl (Nat.le_of_ble_eq_true rfl) dX10_moveStrays_4 rfl rfl ?_
  refine x_iconst g 0 dX10_moveStrays_7 (by decide) ?_
  refine x_istore_n (lv' := [(1, .int 0), (0, .ref (Ad 57))]) g dX10_moveStrays_8 rfl (by decide) rfl ?_
  exact x_sub [1, 0] rfl (l_X10_moveStrays_L9 hA xl g ho FU _ _ hf)
/-! SlotChip$Arrivals.add(I)V -/
def f_X0_add (σ : St) (i : Nat) (p1 : Int32) : Option St :=
  bnd (si σ 0 i 0 ((σ.1 0 i 0) + 1)) fun σ1 =>
  bnd (si σ1 0 i 1 ((σ1.1 0 i 1) + p1)) fun σ2 =>
  bnd (si σ2 0 i 2 (if (σ2.1 0 i 2) < p1 then p1 else (σ2.1 0 i 2))) fun σ3 =>
  some σ3
set_option maxHeartbeats 4000000 in
set_option maxRecDepth 100000 in
theorem c_X0_add {l : Launch} {D : va_G} {cy : Nat → ClassId} {Ad : Nat → Nat} (hA : AdOK 58 Ad) {σ : St} {i : Nat} {p1 : Int32} (h_i : i < 2) {o : St} (hf : f_X0_add σ i p1 = some o) : CT l (wX cy Ad) D cy (AdA 58 Ad) yX0_add cX0_add 2 none 1 [.ref (Ad (43 + i)), .int p1] σ (o, none) := by
  refine CT.of mf_X0_add (wX_D hA) (Nat.le_of_ble_eq_true rfl) ?_
  intro E xl g
  have ho : ((o, none) : St × Option Value) = (o, none) := rfl
  unfold f_X0_add at hf
  show XJ E (wX cy Ad σ) 0 [(0, .ref (Ad (43 + i))), (1, .int p1)] []
  refine x_aload_n g 0 dX0_add_0 rfl rfl ?_
  refine x_dup g dX0_add_1 rfl ?_
  refine x_get g fl_X0_7 (wx_A h_i) rfl dX0_add_2 ?_
  refine x_iconst g 1 dX0_add_5 (by decide) ?_
  refine x_iadd g dX0_add_6 ?_
  refine x_putB g tyX0 fl_X0_7 tyX0_ok nmX0 (wx_A h_i) rfl rfl rfl (Nat.le_of_ble_eq_true rfl) (sx_A_0 h_i _) dX0_add_7 hf (fun σ1 hf => ?_)
  refine x_aload_n g 0 dX0_add_10 rfl rfl ?_
  refine x_dup g dX0_add_11 rfl ?_
  refine x_get g fl_X0_13 (wx_A h_i) rfl dX0_add_12 ?_
  refine x_iload_n g 1 dX0_add_15 rfl rfl ?_
  refine x_iadd g dX0_add_16 ?_
  refine x_putB g tyX0 fl_X0_13 tyX0_ok nmX0 (wx_A h_i) rfl rfl rfl (Nat.le_of_ble_eq_true rfl) (sx_A_1 h_i _) dX0_add_17 hf (fun σ2 hf => ?_)
  refine x_aload_n g 0 dX0_add_20 rfl rfl ?_
  refine x_aload_n g 0 dX0_add_21 rfl rfl ?_
  refine x_get g fl_X0_16 (wx_A h_i) rfl dX0_add_22 ?_
  refine x_iload_n g 1 dX0_add_25 rfl rfl ?_
  refine x_mmax g ml_X0_19 (by decide) (Nat.le_of_ble_eq_true rfl) dX0_add_26 ?_
  refine x_putB g tyX0 fl_X0_16 tyX0_ok nmX0 (wx_A h_i) rfl rfl rfl (Nat.le_of_ble_eq_true rfl) (sx_A_2 h_i _) dX0_add_29 hf (fun σ3 hf => ?_)
  cases hf
  exact x_vret g rfl ho dX0_add_32
/-! SlotChip$Strays.letOut()I -/
def f_X9_letOut_L9b (v1 : Int32) (K9 : St → Int32 → Int32 → Option (St × Int32)) (σ : St) (v2 : Int32) (v3 : Int32) : Option (St × Int32) :=
  if v3 < v1 then
    (if v3 < 12 then
      (chk (inb v3 12) (chk ((σ.2.1 (Int32.toNatClampNeg v3)) < 12) (
        if (σ.1 7 (σ.2.1 (Int32.toNatClampNeg v3)) 1) = 0 then
          (chk (inb v2 12) (chk ((σ.2.1 (Int32.toNatClampNeg v2)) < 12) (
            chk (inb v3 12) (
              bnd (sl σ (Int32.toNatClampNeg v3) (σ.2.1 (Int32.toNatClampNeg v2))) fun σ3 =>
              chk (inb v2 12) (
                bnd (sl σ3 (Int32.toNatClampNeg v2) (σ.2.1 (Int32.toNatClampNeg v3))) fun σ4 =>
                K9 σ4 (v2 + 1) (v3 + 1))))))
        else
          ((f_X9_arrivals σ (σ.1 7 (σ.2.1 (Int32.toNatClampNeg v3)) 0)).bind fun r5 => chk (r5 < 2) (
            (f_X8_age σ (σ.2.1 (Int32.toNatClampNeg v3)) (σ.1 1 0 2)).bind fun r6 =>
            (f_X0_add σ r5 (r6 + 1)).bind fun σ8 =>
            K9 σ8 v2 (v3 + 1))))))
    else
      (bnd (si σ 8 0 0 v2) fun σ9 =>
      some (σ9, (v1 - v2))))
  else
    (bnd (si σ 8 0 0 v2) fun σ10 =>
    some (σ10, (v1 - v2)))
def f_X9_letOut_L9 (v1 : Int32) : Nat → St → Int32 → Int32 → Option (St × Int32)
  | 0 => fun _ _ _ => none
  | n + 1 => f_X9_letOut_L9b v1 (f_X9_letOut_L9 v1 n)
def f_X9_letOut (σ : St) : Option (St × Int32) :=
  f_X9_letOut_L9 (σ.1 8 0 0) FU σ 0 0
set_option maxHeartbeats 4000000 in
set_option maxRecDepth 100000 in
theorem l_X9_letOut_L9 {E : EV} {l : Launch} {D : va_G} {cy : Nat → ClassId} {Ad : Nat → Nat} {out : St × Option Value} {o : (St × Int32)} (hA : AdOK 58 Ad) (xl : XL E l D (AdA 58 Ad)) (g : XG E (wX cy Ad) cy cX9_letOut RX9 5 2 (some .int) out) (v1 : Int32) (ho : out = (o.1, (some (.int o.2)))) : ∀ (n : Nat) (σ : St) (v2 : Int32) (v3 : Int32), f_X9_letOut_L9 v1 n σ v2 v3 = some o → XJ E (wX cy Ad σ) 9 [(0, .ref (Ad 41)), (1, .int v1), (2, .int v2), (3, .int v3)] [] := by
  intro n
  induction n with
  | zero => intro _ _ _ hf; cases hf
  | succ n ih9 =>
    intro σ v2 v3 hf
    replace hf : f_X9_letOut_L9b v1 (f_X9_letOut_L9 v1 n) σ v2 v3 = some o := hf
    unfold f_X9_letOut_L9b at hf
    refine x_iload_n g 3 dX9_letOut_9 rfl rfl ?_
    refine x_iload_n g 1 dX9_letOut_10 rfl rfl ?_
    refine x_icmp_ge g 94 dX9_letOut_11 (by decide) hf (fun c11 hf => ?_) (fun c11 hf => ?_)
    · refine x_iload_n g 3 dX9_letOut_14 rfl rfl ?_
      refine x_bipush g 12 dX9_letOut_15 (by decide) ?_
      refine x_icmp_ge g 94 dX9_letOut_17 (by decide) hf (fun c17 hf => ?_) (fun c17 hf => ?_)
      · refine x_aload_n g 0 dX9_letOut_20 rfl rfl ?_
        refine x_get g fl_X9_11 wx_41 rfl dX9_letOut_21 ?_
        refine x_iload_n g 3 dX9_letOut_24 rfl rfl ?_
        refine x_aald (b := Ad (45 + (σ.2.1 (Int32.toNatClampNeg v3)))) g (t0 := 3) rfl wx_42 rfl dX9_letOut_25 hf (fun hf => ?_)
        have hi1 := (chk_some hf).1
        replace hf := (chk_some hf).2
        refine x_astore (lv' := [(4, .ref (Ad (45 + (σ.2.1 (Int32.toNatClampNeg v3))))), (0, .ref (Ad 41)), (1, .int v1), (2, .int v2), (3, .int v3)]) g dX9_letOut_26 (by decide) rfl ?_
        refine x_aload g 0 dX9_letOut_28 rfl ?_
        refine x_get g fl_X9_91 (wx_S hi1) rfl dX9_letOut_30 ?_
        refine x_if_eq g 65 dX9_letOut_33 (by decide) hf (fun c33 hf => ?_) (fun c33 hf => ?_)
        · refine x_aload_n g 1 dX9_letOut_65 rfl rfl ?_
          refine x_get g fl_X9_11 wx_41 rfl dX9_letOut_66 ?_
          refine x_iload_n g 4 dX9_letOut_69 rfl rfl ?_
          refine x_aload_n g 1 dX9_letOut_70 rfl rfl ?_
          refine x_get g fl_X9_11 wx_41 rfl dX9_letOut_71 ?_
          refine x_iload_n g 3 dX9_letOut_74 rfl rfl ?_
          refine x_aald (b := Ad (45 + (σ.2.1 (Int32.toNatClampNeg v2)))) g (t0 := 3) rfl wx_42 rfl dX9_letOut_75 hf (fun hf => ?_)
          have hi2 := (chk_some hf).1
          replace hf := (chk_some hf).2
          refine x_aastB (r := (RX8, TX8, 7)) g (t0 := 3) rfl wx_42 (wx_S hi2) rfl (wX_sl _ _) dX9_letOut_76 hf (fun σ3 hf => ?_)
          refine x_aload_n g 1 dX9_letOut_77 rfl rfl ?_
          refine x_get g fl_X9_11 wx_41 rfl dX9_letOut_78 ?_
          refine x_iload_n g 3 dX9_letOut_81 rfl rfl ?_
          refine x_aload g 0 dX9_letOut_82 rfl ?_
          refine x_aastB (r := (RX8, TX8, 7)) g (t0 := 3) rfl wx_42 (wx_S hi1) rfl (wX_sl _ _) dX9_letOut_84 hf (fun σ4 hf => ?_)
          refine x_iinc g 3 (v2 + 1) (lv' := [(2, .int (v2 + 1)), (4, .ref (Ad (45 + (σ.2.1 (Int32.toNatClampNeg v3))))), (0, .ref (Ad 41)), (1, .int v1), (3, .int v3)]) dX9_letOut_85 rfl (by rfl) (by decide) rfl ?_
          refine x_iinc g 4 (v3 + 1) (lv' := [(3, .int (v3 + 1)), (2, .int (v2 + 1)), (4, .ref (Ad (45 + (σ.2.1 (Int32.toNatClampNeg v3))))), (0, .ref (Ad 41)), (1, .int v1)]) dX9_letOut_88 rfl (by rfl) (by decide) rfl ?_
          refine x_goto g 9 dX9_letOut_91 (by decide) ?_
          exact x_sub [3, 4, 1, 0] rfl (ih9 _ _ _ hf)
        · refine x_aload_n g 1 dX9_letOut_36 rfl rfl ?_
          refine x_aload g 0 dX9_letOut_37 rfl ?_
          refine x_get g fl_X9_87 (wx_S hi1) rfl dX9_letOut_39 ?_
          obtain ⟨r5, hgr5, hf⟩ := obind hf
          have h_r5 := (chk_some hf).1
          replace hf := (chk_some hf).2
          refine x_callV (r := (RX9, TX9, 6)) g xl [.int (σ.1 7 (σ.2.1 (Int32.toNatClampNeg v3)) 0)] [] [.ref (Ad (43 + r5))] (c_X9_arrivals hA hgr5) mf_X9_arrivals im_X9_arrivals se_X9_arrivals ml_X9_94 rfl wx_41 (by decide) (by decide) rfl (Nat.le_of_ble_eq_true rfl) dX9_letOut_42 rfl rfl ?_
          refine x_aload g 0 dX9_letOut_45 rfl ?_
          refine x_aload_n g 1 dX9_letOut_47 rfl rfl ?_
          refine x_get g fl_X9_27 wx_41 rfl dX9_letOut_48 ?_
          refine x_get g fl_X9_39 wx_6 rfl dX9_letOut_51 ?_
          obtain ⟨r6, hgr6, hf⟩ := obind hf
          refine x_callV (r := (RX8, TX8, 7)) g xl [.int (σ.1 1 0 2)] [.ref (Ad (43 + r5))] [.int r6, .ref (Ad (43 + r5))] (c_X8_age hA hi1 hgr6) mf_X8_age im_X8_age se_X8_age ml_X9_98 rfl (wx_S hi1) (by decide) (by decide) rfl (Nat.le_of_ble_eq_true rfl) dX9_letOut_54 rfl rfl ?_
          refine x_iconst g 1 dX9_letOut_57 (by decide) ?_
          refine x_iadd g dX9_letOut_58 ?_
          obtain ⟨σ8, hgr7, hf⟩ := obind hf
          refine x_callV (r := (RX0, TX0, 3)) g xl [.int (r6 + 1)] [] [] (c_X0_add hA h_r5 hgr7) mf_X0_add im_X0_add se_X0_add ml_X9_101 rfl (wx_A h_r5) (by decide) (by decide) rfl (Nat.le_of_ble_eq_true rfl) dX9_letOut_59 rfl rfl ?_
          refine x_goto g 88 dX9_letOut_62 (by decide) ?_
          refine x_iinc g 4 (v3 + 1) (lv' := [(3, .int (v3 + 1)), (4, .ref (Ad (45 + (σ.2.1 (Int32.toNatClampNeg v3))))), (0, .ref (Ad 41)), (1, .int v1), (2, .int v2)]) dX9_letOut_88 rfl (by rfl) (by decide) rfl ?_
          refine x_goto g 9 dX9_letOut_91 (by decide) ?_
          exact x_sub [2, 3, 4, 0] rfl (ih9 _ _ _ hf)
      · refine x_aload_n g 0 dX9_letOut_94 rfl rfl ?_
        refine x_iload_n g 2 dX9_letOut_95 rfl rfl ?_
        refine x_putB g tyX9 fl_X9_32 tyX9_ok nmX9 wx_41 rfl rfl rfl (Nat.le_of_ble_eq_true rfl) (sx_41_0 _) dX9_letOut_96 hf (fun σ9 hf => ?_)
        refine x_iload_n g 1 dX9_letOut_99 rfl rfl ?_
        refine x_iload_n g 2 dX9_letOut_100 rfl rfl ?_
        refine x_isub g dX9_letOut_101 ?_
        cases hf
        exact x_iret g rfl ho dX9_letOut_102
    · refine x_aload_n g 0 dX9_letOut_94 rfl rfl ?_
      refine x_iload_n g 2 dX9_letOut_95 rfl rfl ?_
      refine x_putB g tyX9 fl_X9_32 tyX9_ok nmX9 wx_41 rfl rfl rfl (Nat.le_of_ble_eq_true rfl) (sx_41_0 _) dX9_letOut_96 hf (fun σ10 hf => ?_)
      refine x_iload_n g 1 dX9_letOut_99 rfl rfl ?_
      refine x_iload_n g 2 dX9_letOut_100 rfl rfl ?_
      refine x_isub g dX9_letOut_101 ?_
      cases hf
      exact x_iret g rfl ho dX9_letOut_102
set_option maxHeartbeats 4000000 in
set_option maxRecDepth 100000 in
theorem c_X9_letOut {l : Launch} {D : va_G} {cy : Nat → ClassId} {Ad : Nat → Nat} (hA : AdOK 58 Ad) {σ : St} {o : (St × Int32)} (hf : f_X9_letOut σ = some o) : CT l (wX cy Ad) D cy (AdA 58 Ad) yX9_letOut cX9_letOut 5 (some .int) 2 [.ref (Ad 41)] σ (o.1, (some (.int o.2))) := by
  refine CT.of mf_X9_letOut (wX_D hA) (Nat.le_of_ble_eq_true rfl) ?_
  intro E xl g
  have ho : ((o.1, (some (.int o.2))) : St × Option Value) = (o.1, (some (.int o.2))) := rfl
  unfold f_X9_letOut at hf
  show XJ E (wX cy Ad σ) 0 [(0, .ref (Ad 41))] []
  refine x_aload_n g 0 dX9_letOut_0 rfl rfl ?_
  refine x_get g fl_X9_32 wx_41 rfl dX9_letOut_1 ?_
  refine x_istore_n (lv' := [(1, .int (σ.1 8 0 0)), (0, .ref (Ad 41))]) g dX9_letOut_4 rfl (by decide) rfl ?_
  refine x_iconst g 0 dX9_letOut_5 (by decide) ?_
  refine x_istore_n (lv' := [(2, .int 0), (1, .int (σ.1 8 0 0)), (0, .ref (Ad 41))]) g dX9_letOut_6 rfl (by decide) rfl ?_
  refine x_iconst g 0 dX9_letOut_7 (by decide) ?_
  refine x_istore_n (lv' := [(3, .int 0), (2, .int 0), (1, .int (σ.1 8 0 0)), (0, .ref (Ad 41))]) g dX9_letOut_8 rfl (by decide) rfl ?_
  exact x_sub [3, 2, 1, 0] rfl (l_X9_letOut_L9 hA xl g _ ho FU _ _ _ hf)
/-! SlotChip$Circuit.useLinks(LSlotChip$Board;)V -/
def f_X2_useLinks_L2b (i0 : Nat) (K2 : St → Int32 → Option St) (σ : St) (v2 : Int32) : Option St :=
  (f_X2_places σ i0).bind fun r1 =>
  if v2 < r1 then
    (chk (inb v2 8) (
      if (σ.1 18 i0 (Int32.toNatClampNeg v2)) = (-1) then
        K2 σ (v2 + 1)
      else
        (chk (inb v2 8) (
          (f_X1_use σ (σ.1 17 i0 (Int32.toNatClampNeg v2))).bind fun σ3 =>
          K2 σ3 (v2 + 1)))))
  else
    some σ
def f_X2_useLinks_L2 (i0 : Nat) : Nat → St → Int32 → Option St
  | 0 => fun _ _ => none
  | n + 1 => f_X2_useLinks_L2b i0 (f_X2_useLinks_L2 i0 n)
def f_X2_useLinks (σ : St) (i : Nat) : Option St :=
  f_X2_useLinks_L2 i FU σ 0
set_option maxHeartbeats 4000000 in
set_option maxRecDepth 100000 in
theorem l_X2_useLinks_L2 {E : EV} {l : Launch} {D : va_G} {cy : Nat → ClassId} {Ad : Nat → Nat} {out : St × Option Value} {o : St} (hA : AdOK 58 Ad) (xl : XL E l D (AdA 58 Ad)) (g : XG E (wX cy Ad) cy cX2_useLinks RX2 3 2 none out) (i0 : Nat) (ho : out = (o, none)) (h_i0 : i0 < 8) : ∀ (n : Nat) (σ : St) (v2 : Int32), f_X2_useLinks_L2 i0 n σ v2 = some o → XJ E (wX cy Ad σ) 2 [(0, .ref (Ad (14 + 3 * i0))), (1, .ref (Ad 6)), (2, .int v2)] [] := by
  intro n
  induction n with
  | zero => intro _ _ hf; cases hf
  | succ n ih2 =>
    intro σ v2 hf
    replace hf : f_X2_useLinks_L2b i0 (f_X2_useLinks_L2 i0 n) σ v2 = some o := hf
    unfold f_X2_useLinks_L2b at hf
    refine x_iload_n g 2 dX2_useLinks_2 rfl rfl ?_
    refine x_aload_n g 0 dX2_useLinks_3 rfl rfl ?_
    obtain ⟨r1, hgr1, hf⟩ := obind hf
    refine x_callV (r := (RX2, TX2, 18)) g xl [] [.int v2] [.int r1, .int v2] (c_X2_places hA h_i0 hgr1) mf_X2_places im_X2_places se_X2_places ml_X2_84 rfl (wx_C h_i0) (by decide) (by decide) rfl (Nat.le_of_ble_eq_true rfl) dX2_useLinks_4 rfl rfl ?_
    refine x_icmp_ge g 36 dX2_useLinks_7 (by decide) hf (fun c7 hf => ?_) (fun c7 hf => ?_)
    · refine x_aload_n g 0 dX2_useLinks_10 rfl rfl ?_
      refine x_get g fl_X2_15 (wx_C h_i0) rfl dX2_useLinks_11 ?_
      refine x_iload_n g 2 dX2_useLinks_14 rfl rfl ?_
      refine x_iald g (wx_Ct h_i0) dX2_useLinks_15 hf (fun hf => ?_)
      refine x_iconst g (-1) dX2_useLinks_16 (by decide) ?_
      refine x_icmp_eq g 30 dX2_useLinks_17 (by decide) hf (fun c17 hf => ?_) (fun c17 hf => ?_)
      · refine x_iinc g 2 (v2 + 1) (lv' := [(2, .int (v2 + 1)), (0, .ref (Ad (14 + 3 * i0))), (1, .ref (Ad 6))]) dX2_useLinks_30 rfl (by rfl) (by decide) rfl ?_
        refine x_goto g 2 dX2_useLinks_33 (by decide) ?_
        exact x_sub [1, 2, 0] rfl (ih2 _ _ hf)
      · refine x_aload_n g 1 dX2_useLinks_20 rfl rfl ?_
        refine x_aload_n g 0 dX2_useLinks_21 rfl rfl ?_
        refine x_get g fl_X2_9 (wx_C h_i0) rfl dX2_useLinks_22 ?_
        refine x_iload_n g 2 dX2_useLinks_25 rfl rfl ?_
        refine x_iald g (wx_Cl h_i0) dX2_useLinks_26 hf (fun hf => ?_)
        obtain ⟨σ3, hgr2, hf⟩ := obind hf
        refine x_callV (r := (RX1, TX1, 6)) g xl [.int (σ.1 17 i0 (Int32.toNatClampNeg v2))] [] [] (c_X1_use hA hgr2) mf_X1_use im_X1_use se_X1_use ml_X2_91 rfl wx_6 (by decide) (by decide) rfl (Nat.le_of_ble_eq_true rfl) dX2_useLinks_27 rfl rfl ?_
        refine x_iinc g 2 (v2 + 1) (lv' := [(2, .int (v2 + 1)), (0, .ref (Ad (14 + 3 * i0))), (1, .ref (Ad 6))]) dX2_useLinks_30 rfl (by rfl) (by decide) rfl ?_
        refine x_goto g 2 dX2_useLinks_33 (by decide) ?_
        exact x_sub [1, 2, 0] rfl (ih2 _ _ hf)
    · cases hf
      exact x_vret g rfl ho dX2_useLinks_36
set_option maxHeartbeats 4000000 in
set_option maxRecDepth 100000 in
theorem c_X2_useLinks {l : Launch} {D : va_G} {cy : Nat → ClassId} {Ad : Nat → Nat} (hA : AdOK 58 Ad) {σ : St} {i : Nat} (h_i : i < 8) {o : St} (hf : f_X2_useLinks σ i = some o) : CT l (wX cy Ad) D cy (AdA 58 Ad) yX2_useLinks cX2_useLinks 3 none 2 [.ref (Ad (14 + 3 * i)), .ref (Ad 6)] σ (o, none) := by
  refine CT.of mf_X2_useLinks (wX_D hA) (Nat.le_of_ble_eq_true rfl) ?_
  intro E xl g
  have ho : ((o, none) : St × Option Value) = (o, none) := rfl
  unfold f_X2_useLinks at hf
  show XJ E (wX cy Ad σ) 0 [(0, .ref (Ad (14 + 3 * i))), (1, .ref (Ad 6))] []
  refine x_iconst g 0 dX2_useLinks_0 (by decide) ?_
  refine x_istore_n (lv' := [(2, .int 0), (0, .ref (Ad (14 + 3 * i))), (1, .ref (Ad 6))]) g dX2_useLinks_1 rfl (by decide) rfl ?_
  exact x_sub [1, 2, 0] rfl (l_X2_useLinks_L2 hA xl g _ ho h_i FU _ _ hf)
/-! SlotChip$Circuit.letterAt(I)I -/
def f_X2_letterAt (σ : St) (i : Nat) (p1 : Int32) : Option Int32 :=
  if 0 ≤ p1 then
    (if 8 ≤ p1 then
      some (-1)
    else
      (chk (inb p1 8) (
        some (σ.1 18 i (Int32.toNatClampNeg p1)))))
  else
    some (-1)
set_option maxHeartbeats 4000000 in
set_option maxRecDepth 100000 in
theorem c_X2_letterAt {l : Launch} {D : va_G} {cy : Nat → ClassId} {Ad : Nat → Nat} (hA : AdOK 58 Ad) {σ : St} {i : Nat} {p1 : Int32} (h_i : i < 8) {o : Int32} (hf : f_X2_letterAt σ i p1 = some o) : CT l (wX cy Ad) D cy (AdA 58 Ad) yX2_letterAt cX2_letterAt 2 (some .int) 0 [.ref (Ad (14 + 3 * i)), .int p1] σ (σ, (some (.int o))) := by
  refine CT.of mf_X2_letterAt (wX_D hA) (Nat.le_of_ble_eq_true rfl) ?_
  intro E xl g
  have ho : ((σ, (some (.int o))) : St × Option Value) = (σ, (some (.int o))) := rfl
  unfold f_X2_letterAt at hf
  show XJ E (wX cy Ad σ) 0 [(0, .ref (Ad (14 + 3 * i))), (1, .int p1)] []
  refine x_iload_n g 1 dX2_letterAt_0 rfl rfl ?_
  refine x_if_lt g 10 dX2_letterAt_1 (by decide) hf (fun c1 hf => ?_) (fun c1 hf => ?_)
  · refine x_iload_n g 1 dX2_letterAt_4 rfl rfl ?_
    refine x_bipush g 8 dX2_letterAt_5 (by decide) ?_
    refine x_icmp_lt g 14 dX2_letterAt_7 (by decide) hf (fun c7 hf => ?_) (fun c7 hf => ?_)
    · refine x_iconst g (-1) dX2_letterAt_10 (by decide) ?_
      refine x_goto g 20 dX2_letterAt_11 (by decide) ?_
      cases hf
      exact x_iret g rfl ho dX2_letterAt_20
    · refine x_aload_n g 0 dX2_letterAt_14 rfl rfl ?_
      refine x_get g fl_X2_15 (wx_C h_i) rfl dX2_letterAt_15 ?_
      refine x_iload_n g 1 dX2_letterAt_18 rfl rfl ?_
      refine x_iald g (wx_Ct h_i) dX2_letterAt_19 hf (fun hf => ?_)
      cases hf
      exact x_iret g rfl ho dX2_letterAt_20
  · refine x_iconst g (-1) dX2_letterAt_10 (by decide) ?_
    refine x_goto g 20 dX2_letterAt_11 (by decide) ?_
    cases hf
    exact x_iret g rfl ho dX2_letterAt_20
/-! SlotChip$Circuit.goodsOf(I)I -/
def f_X2_goodsOf (p1 : Int32) : Option Int32 :=
  some (p1 &&& 1)
set_option maxHeartbeats 4000000 in
set_option maxRecDepth 100000 in
theorem c_X2_goodsOf {l : Launch} {D : va_G} {cy : Nat → ClassId} {Ad : Nat → Nat} (hA : AdOK 58 Ad) {σ : St} {p1 : Int32} {o : Int32} (hf : f_X2_goodsOf p1 = some o) : CT l (wX cy Ad) D cy (AdA 58 Ad) yX2_goodsOf cX2_goodsOf 1 (some .int) 0 [.int p1] σ (σ, (some (.int o))) := by
  refine CT.of mf_X2_goodsOf (wX_D hA) (Nat.le_of_ble_eq_true rfl) ?_
  intro E xl g
  have ho : ((σ, (some (.int o))) : St × Option Value) = (σ, (some (.int o))) := rfl
  unfold f_X2_goodsOf at hf
  show XJ E (wX cy Ad σ) 0 [(0, .int p1)] []
  refine x_iload_n g 0 dX2_goodsOf_0 rfl rfl ?_
  refine x_iconst g 1 dX2_goodsOf_1 (by decide) ?_
  refine x_iand g dX2_goodsOf_2 ?_
  cases hf
  exact x_iret g rfl ho dX2_goodsOf_3
/-! SlotChip$Circuit.toldOf(I)I -/
def f_X2_toldOf (p1 : Int32) : Option Int32 :=
  some (p1 >>> (1 &&& 31))
set_option maxHeartbeats 4000000 in
set_option maxRecDepth 100000 in
theorem c_X2_toldOf {l : Launch} {D : va_G} {cy : Nat → ClassId} {Ad : Nat → Nat} (hA : AdOK 58 Ad) {σ : St} {p1 : Int32} {o : Int32} (hf : f_X2_toldOf p1 = some o) : CT l (wX cy Ad) D cy (AdA 58 Ad) yX2_toldOf cX2_toldOf 1 (some .int) 0 [.int p1] σ (σ, (some (.int o))) := by
  refine CT.of mf_X2_toldOf (wX_D hA) (Nat.le_of_ble_eq_true rfl) ?_
  intro E xl g
  have ho : ((σ, (some (.int o))) : St × Option Value) = (σ, (some (.int o))) := rfl
  unfold f_X2_toldOf at hf
  show XJ E (wX cy Ad σ) 0 [(0, .int p1)] []
  refine x_iload_n g 0 dX2_toldOf_0 rfl rfl ?_
  refine x_iconst g 1 dX2_toldOf_1 (by decide) ?_
  refine x_ishr g dX2_toldOf_2 ?_
  cases hf
  exact x_iret g rfl ho dX2_toldOf_3
/-! SlotChip$Circuit.deliver(ILSlotChip$Circuit;)I -/
def f_X2_deliver (σ : St) (i : Nat) (p1 : Int32) (p2 : (Option Nat)) : Option (St × Int32) :=
  (f_X2_goodsOf p1).bind fun r1 =>
  bnd (si σ 2 i 9 ((σ.1 2 i 9) + r1)) fun σ2 =>
  bnd (si σ2 2 i 12 ((σ2.1 2 i 12) + r1)) fun σ3 =>
  onR 8 p2
    (some (σ3, r1))
    (fun j4 =>
      (f_X2_toldOf p1).bind fun r5 =>
      bnd (si σ3 2 j4 11 ((σ3.1 2 j4 11) + r5)) fun σ6 =>
      some (σ6, r1))
set_option maxHeartbeats 4000000 in
set_option maxRecDepth 100000 in
theorem c_X2_deliver {l : Launch} {D : va_G} {cy : Nat → ClassId} {Ad : Nat → Nat} (hA : AdOK 58 Ad) {σ : St} {i : Nat} {p1 : Int32} {p2 : (Option Nat)} (h_i : i < 8) {o : (St × Int32)} (hf : f_X2_deliver σ i p1 p2 = some o) : CT l (wX cy Ad) D cy (AdA 58 Ad) yX2_deliver cX2_deliver 4 (some .int) 1 [.ref (Ad (14 + 3 * i)), .int p1, vC Ad p2] σ (o.1, (some (.int o.2))) := by
  refine CT.of mf_X2_deliver (wX_D hA) (by cases p2 <;> exact Nat.le_of_ble_eq_true rfl) ?_
  intro E xl g
  have ho : ((o.1, (some (.int o.2))) : St × Option Value) = (o.1, (some (.int o.2))) := rfl
  unfold f_X2_deliver at hf
  show XJ E (wX cy Ad σ) 0 [(0, .ref (Ad (14 + 3 * i))), (1, .int p1), (2, vC Ad p2)] []
  refine x_iload_n g 1 dX2_deliver_0 rfl rfl ?_
  obtain ⟨r1, hgr1, hf⟩ := obind hf
  refine x_callS g xl [.int p1] [] [.int r1] (c_X2_goodsOf hA hgr1) mf_X2_goodsOf sm_X2_goodsOf ml_X2_105 (by decide) (by decide) rfl (Nat.le_of_ble_eq_true rfl) dX2_deliver_1 rfl rfl ?_
  refine x_istore_n (lv' := [(3, .int r1), (0, .ref (Ad (14 + 3 * i))), (1, .int p1), (2, vC Ad p2)]) g dX2_deliver_4 rfl (by decide) (by cases p2 <;> rfl) ?_
  refine x_aload_n g 1 dX2_deliver_5 rfl rfl ?_
  refine x_dup g dX2_deliver_6 rfl ?_
  refine x_get g fl_X2_53 (wx_C h_i) rfl dX2_deliver_7 ?_
  refine x_iload_n g 0 dX2_deliver_10 rfl rfl ?_
  refine x_iadd g dX2_deliver_11 ?_
  refine x_putB g tyX2 fl_X2_53 tyX2_ok nmX2 (wx_C h_i) rfl rfl rfl (Nat.le_of_ble_eq_true rfl) (sx_C_9 h_i _) dX2_deliver_12 hf (fun σ2 hf => ?_)
  refine x_aload_n g 1 dX2_deliver_15 rfl rfl ?_
  refine x_dup g dX2_deliver_16 rfl ?_
  refine x_get g fl_X2_59 (wx_C h_i) rfl dX2_deliver_17 ?_
  refine x_iload_n g 0 dX2_deliver_20 rfl rfl ?_
  refine x_iadd g dX2_deliver_21 ?_
  refine x_putB g tyX2 fl_X2_59 tyX2_ok nmX2 (wx_C h_i) rfl rfl rfl (Nat.le_of_ble_eq_true rfl) (sx_C_12 h_i _) dX2_deliver_22 hf (fun σ3 hf => ?_)
  refine onR_sp hf (fun e hf => ?_) (fun j4 h_j4 e hf => ?_)
  · rw [e]
    show XJ E (wX cy Ad σ3) 25 [(3, .int r1), (0, .ref (Ad (14 + 3 * i))), (1, .int p1), (2, .null)] []
    refine x_aload_nN g 3 dX2_deliver_25 rfl rfl ?_
    refine x_ifnullN g 42 dX2_deliver_26 (by decide) ?_
    refine x_iload_n g 0 dX2_deliver_42 rfl rfl ?_
    cases hf
    exact x_iret g rfl ho dX2_deliver_43
  · rw [e]
    show XJ E (wX cy Ad σ3) 25 [(3, .int r1), (0, .ref (Ad (14 + 3 * i))), (1, .int p1), (2, .ref (Ad (14 + 3 * j4)))] []
    refine x_aload_n g 3 dX2_deliver_25 rfl rfl ?_
    refine x_ifnull g dX2_deliver_26 ?_
    refine x_aload_n g 3 dX2_deliver_29 rfl rfl ?_
    refine x_dup g dX2_deliver_30 rfl ?_
    refine x_get g fl_X2_50 (wx_C h_j4) rfl dX2_deliver_31 ?_
    refine x_iload_n g 2 dX2_deliver_34 rfl rfl ?_
    obtain ⟨r5, hgr5, hf⟩ := obind hf
    refine x_callS g xl [.int p1] [.int (σ3.1 2 j4 11), .ref (Ad (14 + 3 * j4))] [.int r5, .int (σ3.1 2 j4 11), .ref (Ad (14 + 3 * j4))] (c_X2_toldOf hA hgr5) mf_X2_toldOf sm_X2_toldOf ml_X2_108 (by decide) (by decide) rfl (Nat.le_of_ble_eq_true rfl) dX2_deliver_35 rfl rfl ?_
    refine x_iadd g dX2_deliver_38 ?_
    refine x_putB g tyX2 fl_X2_50 tyX2_ok nmX2 (wx_C h_j4) rfl rfl rfl (Nat.le_of_ble_eq_true rfl) (sx_C_11 h_j4 _) dX2_deliver_39 hf (fun σ6 hf => ?_)
    refine x_iload_n g 0 dX2_deliver_42 rfl rfl ?_
    cases hf
    exact x_iret g rfl ho dX2_deliver_43
/-! SlotChip$Circuit.advance(LSlotChip$Circuit;)I -/
def f_X2_advance_L18b (i0 : Nat) (b1 : (Option Nat)) (v2 : Int32) (K18 : St → Int32 → Option (St × Int32)) (σ : St) (v3 : Int32) : Option (St × Int32) :=
  if 0 < v3 then
    (chk (inb (v3 - 1) 8) (
      chk (inb v3 8) (
        bnd (si σ 18 i0 (Int32.toNatClampNeg v3) (σ.1 18 i0 (Int32.toNatClampNeg (v3 - 1)))) fun σ4 =>
        K18 σ4 (v3 + (-1)))))
  else
    (bnd (si σ 18 i0 0 (-1)) fun σ5 =>
    if v2 = (-1) then
      some (σ5, 0)
    else
      (onR 8 b1
        ((f_X2_deliver σ5 i0 v2 none).bind fun (σ8, r7) =>
        some (σ8, r7))
        (fun j6 =>
          (f_X2_deliver σ5 i0 v2 (some j6)).bind fun (σ10, r9) =>
          some (σ10, r9))))
def f_X2_advance_L18 (i0 : Nat) (b1 : (Option Nat)) (v2 : Int32) : Nat → St → Int32 → Option (St × Int32)
  | 0 => fun _ _ => none
  | n + 1 => f_X2_advance_L18b i0 b1 v2 (f_X2_advance_L18 i0 b1 v2 n)
def f_X2_advance (σ : St) (i : Nat) (p1 : (Option Nat)) : Option (St × Int32) :=
  (f_X2_places σ i).bind fun r1 =>
  (f_X2_letterAt σ i (r1 - 1)).bind fun r2 =>
  (f_X2_places σ i).bind fun r3 =>
  f_X2_advance_L18 i p1 r2 FU σ (r3 - 1)
set_option maxHeartbeats 4000000 in
set_option maxRecDepth 100000 in
theorem l_X2_advance_L18 {E : EV} {l : Launch} {D : va_G} {cy : Nat → ClassId} {Ad : Nat → Nat} {out : St × Option Value} {o : (St × Int32)} (hA : AdOK 58 Ad) (xl : XL E l D (AdA 58 Ad)) (g : XG E (wX cy Ad) cy cX2_advance RX2 4 2 (some .int) out) (i0 : Nat) (b1 : (Option Nat)) (v2 : Int32) (ho : out = (o.1, (some (.int o.2)))) (h_i0 : i0 < 8) : ∀ (n : Nat) (σ : St) (v3 : Int32), f_X2_advance_L18 i0 b1 v2 n σ v3 = some o → XJ E (wX cy Ad σ) 18 [(0, .ref (Ad (14 + 3 * i0))), (1, vC Ad b1), (2, .int v2), (3, .int v3)] [] := by
  intro n
  induction n with
  | zero => intro _ _ hf; cases hf
  | succ n ih18 =>
    intro σ v3 hf
    replace hf : f_X2_advance_L18b i0 b1 v2 (f_X2_advance_L18 i0 b1 v2 n) σ v3 = some o := hf
    unfold f_X2_advance_L18b at hf
    refine x_iload_n g 3 dX2_advance_18 rfl rfl ?_
    refine x_if_le g 42 dX2_advance_19 (by decide) hf (fun c19 hf => ?_) (fun c19 hf => ?_)
    · refine x_aload_n g 0 dX2_advance_22 rfl rfl ?_
      refine x_get g fl_X2_15 (wx_C h_i0) rfl dX2_advance_23 ?_
      refine x_iload_n g 3 dX2_advance_26 rfl rfl ?_
      refine x_aload_n g 0 dX2_advance_27 rfl rfl ?_
      refine x_get g fl_X2_15 (wx_C h_i0) rfl dX2_advance_28 ?_
      refine x_iload_n g 3 dX2_advance_31 rfl rfl ?_
      refine x_iconst g 1 dX2_advance_32 (by decide) ?_
      refine x_isub g dX2_advance_33 ?_
      refine x_iald g (wx_Ct h_i0) dX2_advance_34 hf (fun hf => ?_)
      refine x_iastB g (wx_Ct h_i0) (sx_Ct h_i0 _ _) dX2_advance_35 hf (fun σ4 hf => ?_)
      refine x_iinc g 3 (v3 + (-1)) (lv' := [(3, .int (v3 + (-1))), (0, .ref (Ad (14 + 3 * i0))), (1, vC Ad b1), (2, .int v2)]) dX2_advance_36 rfl (by rfl) (by decide) (by cases b1 <;> rfl) ?_
      refine x_goto g 18 dX2_advance_39 (by decide) ?_
      exact x_sub [1, 2, 3, 0] rfl (ih18 _ _ hf)
    · refine x_aload_n g 0 dX2_advance_42 rfl rfl ?_
      refine x_get g fl_X2_15 (wx_C h_i0) rfl dX2_advance_43 ?_
      refine x_iconst g 0 dX2_advance_46 (by decide) ?_
      refine x_iconst g (-1) dX2_advance_47 (by decide) ?_
      refine x_iastB g (wx_Ct h_i0) (sx_Ct h_i0 _ _) dX2_advance_48 (chk_of (by decide) hf) (fun σ5 hf => ?_)
      refine x_iload_n g 2 dX2_advance_49 rfl rfl ?_
      refine x_iconst g (-1) dX2_advance_50 (by decide) ?_
      refine x_icmp_ne g 58 dX2_advance_51 (by decide) hf (fun c51 hf => ?_) (fun c51 hf => ?_)
      · refine x_iconst g 0 dX2_advance_54 (by decide) ?_
        refine x_goto g 64 dX2_advance_55 (by decide) ?_
        cases hf
        exact x_iret g rfl ho dX2_advance_64
      · refine x_aload_n g 0 dX2_advance_58 rfl rfl ?_
        refine x_iload_n g 2 dX2_advance_59 rfl rfl ?_
        refine onR_sp hf (fun e hf => ?_) (fun j6 h_j6 e hf => ?_)
        · rw [e]
          show XJ E (wX cy Ad σ5) 60 [(0, .ref (Ad (14 + 3 * i0))), (1, .null), (2, .int v2), (3, .int v3)] [.int v2, .ref (Ad (14 + 3 * i0))]
          refine x_aload_nN g 1 dX2_advance_60 rfl rfl ?_
          obtain ⟨⟨σ8, r7⟩, hgr7, hf⟩ := obind hf
          refine x_callV (r := (RX2, TX2, 18)) g xl [.int v2, .null] [] [.int r7] (c_X2_deliver hA h_i0 hgr7) mf_X2_deliver im_X2_deliver se_X2_deliver ml_X2_101 rfl (wx_C h_i0) (by decide) (by decide) rfl (Nat.le_of_ble_eq_true rfl) dX2_advance_61 rfl rfl ?_
          cases hf
          exact x_iret g rfl ho dX2_advance_64
        · rw [e]
          show XJ E (wX cy Ad σ5) 60 [(0, .ref (Ad (14 + 3 * i0))), (1, .ref (Ad (14 + 3 * j6))), (2, .int v2), (3, .int v3)] [.int v2, .ref (Ad (14 + 3 * i0))]
          refine x_aload_n g 1 dX2_advance_60 rfl rfl ?_
          obtain ⟨⟨σ10, r9⟩, hgr9, hf⟩ := obind hf
          refine x_callV (r := (RX2, TX2, 18)) g xl [.int v2, .ref (Ad (14 + 3 * j6))] [] [.int r9] (c_X2_deliver hA h_i0 hgr9) mf_X2_deliver im_X2_deliver se_X2_deliver ml_X2_101 rfl (wx_C h_i0) (by decide) (by decide) rfl (Nat.le_of_ble_eq_true rfl) dX2_advance_61 rfl rfl ?_
          cases hf
          exact x_iret g rfl ho dX2_advance_64
set_option maxHeartbeats 4000000 in
set_option maxRecDepth 100000 in
theorem c_X2_advance {l : Launch} {D : va_G} {cy : Nat → ClassId} {Ad : Nat → Nat} (hA : AdOK 58 Ad) {σ : St} {i : Nat} {p1 : (Option Nat)} (h_i : i < 8) {o : (St × Int32)} (hf : f_X2_advance σ i p1 = some o) : CT l (wX cy Ad) D cy (AdA 58 Ad) yX2_advance cX2_advance 4 (some .int) 2 [.ref (Ad (14 + 3 * i)), vC Ad p1] σ (o.1, (some (.int o.2))) := by
  refine CT.of mf_X2_advance (wX_D hA) (by cases p1 <;> exact Nat.le_of_ble_eq_true rfl) ?_
  intro E xl g
  have ho : ((o.1, (some (.int o.2))) : St × Option Value) = (o.1, (some (.int o.2))) := rfl
  unfold f_X2_advance at hf
  show XJ E (wX cy Ad σ) 0 [(0, .ref (Ad (14 + 3 * i))), (1, vC Ad p1)] []
  refine x_aload_n g 0 dX2_advance_0 rfl rfl ?_
  refine x_aload_n g 0 dX2_advance_1 rfl rfl ?_
  obtain ⟨r1, hgr1, hf⟩ := obind hf
  refine x_callV (r := (RX2, TX2, 18)) g xl [] [.ref (Ad (14 + 3 * i))] [.int r1, .ref (Ad (14 + 3 * i))] (c_X2_places hA h_i hgr1) mf_X2_places im_X2_places se_X2_places ml_X2_84 rfl (wx_C h_i) (by decide) (by decide) rfl (Nat.le_of_ble_eq_true rfl) dX2_advance_2 rfl rfl ?_
  refine x_iconst g 1 dX2_advance_5 (by decide) ?_
  refine x_isub g dX2_advance_6 ?_
  obtain ⟨r2, hgr2, hf⟩ := obind hf
  refine x_callV (r := (RX2, TX2, 18)) g xl [.int (r1 - 1)] [] [.int r2] (c_X2_letterAt hA h_i hgr2) mf_X2_letterAt im_X2_letterAt se_X2_letterAt ml_X2_97 rfl (wx_C h_i) (by decide) (by decide) rfl (Nat.le_of_ble_eq_true rfl) dX2_advance_7 rfl rfl ?_
  refine x_istore_n (lv' := [(2, .int r2), (0, .ref (Ad (14 + 3 * i))), (1, vC Ad p1)]) g dX2_advance_10 rfl (by decide) (by cases p1 <;> rfl) ?_
  refine x_aload_n g 1 dX2_advance_11 rfl rfl ?_
  obtain ⟨r3, hgr3, hf⟩ := obind hf
  refine x_callV (r := (RX2, TX2, 18)) g xl [] [] [.int r3] (c_X2_places hA h_i hgr3) mf_X2_places im_X2_places se_X2_places ml_X2_84 rfl (wx_C h_i) (by decide) (by decide) rfl (Nat.le_of_ble_eq_true rfl) dX2_advance_12 rfl rfl ?_
  refine x_iconst g 1 dX2_advance_15 (by decide) ?_
  refine x_isub g dX2_advance_16 ?_
  refine x_istore_n (lv' := [(3, .int (r3 - 1)), (2, .int r2), (0, .ref (Ad (14 + 3 * i))), (1, vC Ad p1)]) g dX2_advance_17 rfl (by decide) (by cases p1 <;> rfl) ?_
  exact x_sub [2, 3, 1, 0] rfl (l_X2_advance_L18 hA xl g _ _ _ ho h_i FU _ _ hf)
/-! SlotChip$Traffic.moveLetters()I -/
def f_X10_moveLetters_L4b (K4 : St → Int32 → Int32 → Option (St × Int32)) (σ : St) (v1 : Int32) (v2 : Int32) : Option (St × Int32) :=
  if v2 < 8 then
    ((f_X3_find σ v2).bind fun r1 =>
    onR 8 r1
      (K4 σ v1 (v2 + 1))
      (fun j2 =>
        (f_X2_useLinks σ j2).bind fun σ4 =>
        (f_X3_find σ4 (σ4.1 2 j2 7)).bind fun r5 =>
        onR 8 r5
          ((f_X2_advance σ4 j2 none).bind fun (σ8, r7) =>
          K4 σ8 (v1 + r7) (v2 + 1))
          (fun j6 =>
            (f_X2_advance σ4 j2 (some j6)).bind fun (σ10, r9) =>
            K4 σ10 (v1 + r9) (v2 + 1))))
  else
    some (σ, v1)
def f_X10_moveLetters_L4 : Nat → St → Int32 → Int32 → Option (St × Int32)
  | 0 => fun _ _ _ => none
  | n + 1 => f_X10_moveLetters_L4b (f_X10_moveLetters_L4 n)
def f_X10_moveLetters (σ : St) : Option (St × Int32) :=
  f_X10_moveLetters_L4 FU σ 0 0
set_option maxHeartbeats 4000000 in
set_option maxRecDepth 100000 in
theorem l_X10_moveLetters_L4 {E : EV} {l : Launch} {D : va_G} {cy : Nat → ClassId} {Ad : Nat → Nat} {out : St × Option Value} {o : (St × Int32)} (hA : AdOK 58 Ad) (xl : XL E l D (AdA 58 Ad)) (g : XG E (wX cy Ad) cy cX10_moveLetters RX10 4 3 (some .int) out) (ho : out = (o.1, (some (.int o.2)))) : ∀ (n : Nat) (σ : St) (v1 : Int32) (v2 : Int32), f_X10_moveLetters_L4 n σ v1 v2 = some o → XJ E (wX cy Ad σ) 4 [(0, .ref (Ad 57)), (1, .int v1), (2, .int v2)] [] := by
  intro n
  induction n with
  | zero => intro _ _ _ hf; cases hf
  | succ n ih4 =>
    intro σ v1 v2 hf
    replace hf : f_X10_moveLetters_L4b (f_X10_moveLetters_L4 n) σ v1 v2 = some o := hf
    unfold f_X10_moveLetters_L4b at hf
    refine x_iload_n g 2 dX10_moveLetters_4 rfl rfl ?_
    refine x_bipush g 8 dX10_moveLetters_5 (by decide) ?_
    refine x_icmp_ge g 55 dX10_moveLetters_7 (by decide) hf (fun c7 hf => ?_) (fun c7 hf => ?_)
    · refine x_aload_n g 0 dX10_moveLetters_10 rfl rfl ?_
      refine x_get g fl_X10_15 wx_57 rfl dX10_moveLetters_11 ?_
      refine x_iload_n g 2 dX10_moveLetters_14 rfl rfl ?_
      obtain ⟨r1, hgr1, hf⟩ := obind hf
      refine onR_sp hf (fun e hf => ?_) (fun j2 h_j2 e hf => ?_)
      · rw [e] at hgr1
        refine x_callV (r := (RX3, TX3, 1)) g xl [.int v2] [] [.null] (c_X3_find hA hgr1) mf_X3_find im_X3_find se_X3_find ml_X10_47 rfl wx_12 (by decide) (by decide) rfl (Nat.le_of_ble_eq_true rfl) dX10_moveLetters_15 rfl rfl ?_
        refine x_astore_nN (lv' := [(3, .null), (0, .ref (Ad 57)), (1, .int v1), (2, .int v2)]) g dX10_moveLetters_18 rfl (by decide) rfl ?_
        refine x_aload_nN g 0 dX10_moveLetters_19 rfl rfl ?_
        refine x_ifnullN g 49 dX10_moveLetters_20 (by decide) ?_
        refine x_iinc g 3 (v2 + 1) (lv' := [(2, .int (v2 + 1)), (3, .null), (0, .ref (Ad 57)), (1, .int v1)]) dX10_moveLetters_49 rfl (by rfl) (by decide) rfl ?_
        refine x_goto g 4 dX10_moveLetters_52 (by decide) ?_
        exact x_sub [2, 3, 0] rfl (ih4 _ _ _ hf)
      · rw [e] at hgr1
        refine x_callV (r := (RX3, TX3, 1)) g xl [.int v2] [] [.ref (Ad (14 + 3 * j2))] (c_X3_find hA hgr1) mf_X3_find im_X3_find se_X3_find ml_X10_47 rfl wx_12 (by decide) (by decide) rfl (Nat.le_of_ble_eq_true rfl) dX10_moveLetters_15 rfl rfl ?_
        refine x_astore_n (lv' := [(3, .ref (Ad (14 + 3 * j2))), (0, .ref (Ad 57)), (1, .int v1), (2, .int v2)]) g dX10_moveLetters_18 rfl (by decide) rfl ?_
        refine x_aload_n g 0 dX10_moveLetters_19 rfl rfl ?_
        refine x_ifnull g dX10_moveLetters_20 ?_
        refine x_aload_n g 0 dX10_moveLetters_23 rfl rfl ?_
        refine x_aload_n g 1 dX10_moveLetters_24 rfl rfl ?_
        refine x_get g fl_X10_9 wx_57 rfl dX10_moveLetters_25 ?_
        obtain ⟨σ4, hgr3, hf⟩ := obind hf
        refine x_callV (r := (RX2, TX2, 18)) g xl [.ref (Ad 6)] [] [] (c_X2_useLinks hA h_j2 hgr3) mf_X2_useLinks im_X2_useLinks se_X2_useLinks ml_X10_111 rfl (wx_C h_j2) (by decide) (by decide) rfl (Nat.le_of_ble_eq_true rfl) dX10_moveLetters_28 rfl rfl ?_
        refine x_iload_n g 2 dX10_moveLetters_31 rfl rfl ?_
        refine x_aload_n g 0 dX10_moveLetters_32 rfl rfl ?_
        refine x_aload_n g 1 dX10_moveLetters_33 rfl rfl ?_
        refine x_get g fl_X10_15 wx_57 rfl dX10_moveLetters_34 ?_
        refine x_aload_n g 0 dX10_moveLetters_37 rfl rfl ?_
        refine x_get g fl_X10_59 (wx_C h_j2) rfl dX10_moveLetters_38 ?_
        obtain ⟨r5, hgr5, hf⟩ := obind hf
        refine onR_sp hf (fun e hf => ?_) (fun j6 h_j6 e hf => ?_)
        · rw [e] at hgr5
          refine x_callV (r := (RX3, TX3, 1)) g xl [.int (σ4.1 2 j2 7)] [.ref (Ad (14 + 3 * j2)), .int v1] [.null, .ref (Ad (14 + 3 * j2)), .int v1] (c_X3_find hA hgr5) mf_X3_find im_X3_find se_X3_find ml_X10_47 rfl wx_12 (by decide) (by decide) rfl (Nat.le_of_ble_eq_true rfl) dX10_moveLetters_41 rfl rfl ?_
          obtain ⟨⟨σ8, r7⟩, hgr7, hf⟩ := obind hf
          refine x_callV (r := (RX2, TX2, 18)) g xl [.null] [.int v1] [.int r7, .int v1] (c_X2_advance hA h_j2 hgr7) mf_X2_advance im_X2_advance se_X2_advance ml_X10_115 rfl (wx_C h_j2) (by decide) (by decide) rfl (Nat.le_of_ble_eq_true rfl) dX10_moveLetters_44 rfl rfl ?_
          refine x_iadd g dX10_moveLetters_47 ?_
          refine x_istore_n (lv' := [(1, .int (v1 + r7)), (3, .ref (Ad (14 + 3 * j2))), (0, .ref (Ad 57)), (2, .int v2)]) g dX10_moveLetters_48 rfl (by decide) rfl ?_
          refine x_iinc g 3 (v2 + 1) (lv' := [(2, .int (v2 + 1)), (1, .int (v1 + r7)), (3, .ref (Ad (14 + 3 * j2))), (0, .ref (Ad 57))]) dX10_moveLetters_49 rfl (by rfl) (by decide) rfl ?_
          refine x_goto g 4 dX10_moveLetters_52 (by decide) ?_
          exact x_sub [3, 1, 0] rfl (ih4 _ _ _ hf)
        · rw [e] at hgr5
          refine x_callV (r := (RX3, TX3, 1)) g xl [.int (σ4.1 2 j2 7)] [.ref (Ad (14 + 3 * j2)), .int v1] [.ref (Ad (14 + 3 * j6)), .ref (Ad (14 + 3 * j2)), .int v1] (c_X3_find hA hgr5) mf_X3_find im_X3_find se_X3_find ml_X10_47 rfl wx_12 (by decide) (by decide) rfl (Nat.le_of_ble_eq_true rfl) dX10_moveLetters_41 rfl rfl ?_
          obtain ⟨⟨σ10, r9⟩, hgr9, hf⟩ := obind hf
          refine x_callV (r := (RX2, TX2, 18)) g xl [.ref (Ad (14 + 3 * j6))] [.int v1] [.int r9, .int v1] (c_X2_advance hA h_j2 hgr9) mf_X2_advance im_X2_advance se_X2_advance ml_X10_115 rfl (wx_C h_j2) (by decide) (by decide) rfl (Nat.le_of_ble_eq_true rfl) dX10_moveLetters_44 rfl rfl ?_
          refine x_iadd g dX10_moveLetters_47 ?_
          refine x_istore_n (lv' := [(1, .int (v1 + r9)), (3, .ref (Ad (14 + 3 * j2))), (0, .ref (Ad 57)), (2, .int v2)]) g dX10_moveLetters_48 rfl (by decide) rfl ?_
          refine x_iinc g 3 (v2 + 1) (lv' := [(2, .int (v2 + 1)), (1, .int (v1 + r9)), (3, .ref (Ad (14 + 3 * j2))), (0, .ref (Ad 57))]) dX10_moveLetters_49 rfl (by rfl) (by decide) rfl ?_
          refine x_goto g 4 dX10_moveLetters_52 (by decide) ?_
          exact x_sub [3, 1, 0] rfl (ih4 _ _ _ hf)
    · refine x_iload_n g 1 dX10_moveLetters_55 rfl rfl ?_
      cases hf
      exact x_iret g rfl ho dX10_moveLetters_56
set_option maxHeartbeats 4000000 in
set_option maxRecDepth 100000 in
theorem c_X10_moveLetters {l : Launch} {D : va_G} {cy : Nat → ClassId} {Ad : Nat → Nat} (hA : AdOK 58 Ad) {σ : St} {o : (St × Int32)} (hf : f_X10_moveLetters σ = some o) : CT l (wX cy Ad) D cy (AdA 58 Ad) yX10_moveLetters cX10_moveLetters 4 (some .int) 3 [.ref (Ad 57)] σ (o.1, (some (.int o.2))) := by
  refine CT.of mf_X10_moveLetters (wX_D hA) (Nat.le_of_ble_eq_true rfl) ?_
  intro E xl g
  have ho : ((o.1, (some (.int o.2))) : St × Option Value) = (o.1, (some (.int o.2))) := rfl
  unfold f_X10_moveLetters at hf
  show XJ E (wX cy Ad σ) 0 [(0, .ref (Ad 57))] []
  refine x_iconst g 0 dX10_moveLetters_0 (by decide) ?_
  refine x_istore_n (lv' := [(1, .int 0), (0, .ref (Ad 57))]) g dX10_moveLetters_1 rfl (by decide) rfl ?_
  refine x_iconst g 0 dX10_moveLetters_2 (by decide) ?_
  refine x_istore_n (lv' := [(2, .int 0), (1, .int 0), (0, .ref (Ad 57))]) g dX10_moveLetters_3 rfl (by decide) rfl ?_
  exact x_sub [2, 1, 0] rfl (l_X10_moveLetters_L4 hA xl g ho FU _ _ _ hf)
/-! SlotChip$Traffic.goOn()I -/
def f_X10_goOn (σ : St) : Option (St × Int32) :=
  (f_X10_sendLetters σ).bind fun σ2 =>
  (f_X10_moveStrays σ2).bind fun σ4 =>
  (f_X9_letOut σ4).bind fun (σ6, r5) =>
  (f_X10_moveLetters σ6).bind fun (σ8, r7) =>
  bnd (si σ8 1 0 2 ((σ8.1 1 0 2) + 1)) fun σ9 =>
  some (σ9, (r5 + r7))
set_option maxHeartbeats 4000000 in
set_option maxRecDepth 100000 in
theorem c_X10_goOn {l : Launch} {D : va_G} {cy : Nat → ClassId} {Ad : Nat → Nat} (hA : AdOK 58 Ad) {σ : St} {o : (St × Int32)} (hf : f_X10_goOn σ = some o) : CT l (wX cy Ad) D cy (AdA 58 Ad) yX10_goOn cX10_goOn 2 (some .int) 5 [.ref (Ad 57)] σ (o.1, (some (.int o.2))) := by
  refine CT.of mf_X10_goOn (wX_D hA) (Nat.le_of_ble_eq_true rfl) ?_
  intro E xl g
  have ho : ((o.1, (some (.int o.2))) : St × Option Value) = (o.1, (some (.int o.2))) := rfl
  unfold f_X10_goOn at hf
  show XJ E (wX cy Ad σ) 0 [(0, .ref (Ad 57))] []
  refine x_aload_n g 0 dX10_goOn_0 rfl rfl ?_
  obtain ⟨σ2, hgr1, hf⟩ := obind hf
  refine x_callV (r := (RX10, TX10, 3)) g xl [] [] [] (c_X10_sendLetters hA hgr1) mf_X10_sendLetters im_X10_sendLetters se_X10_sendLetters ml_X10_23 rfl wx_57 (by decide) (by decide) rfl (Nat.le_of_ble_eq_true rfl) dX10_goOn_1 rfl rfl ?_
  refine x_aload_n g 0 dX10_goOn_4 rfl rfl ?_
  obtain ⟨σ4, hgr3, hf⟩ := obind hf
  refine x_callV (r := (RX10, TX10, 3)) g xl [] [] [] (c_X10_moveStrays hA hgr3) mf_X10_moveStrays im_X10_moveStrays se_X10_moveStrays ml_X10_26 rfl wx_57 (by decide) (by decide) rfl (Nat.le_of_ble_eq_true rfl) dX10_goOn_5 rfl rfl ?_
  refine x_aload_n g 0 dX10_goOn_8 rfl rfl ?_
  refine x_get g fl_X10_19 wx_57 rfl dX10_goOn_9 ?_
  obtain ⟨⟨σ6, r5⟩, hgr5, hf⟩ := obind hf
  refine x_callV (r := (RX9, TX9, 6)) g xl [] [] [.int r5] (c_X9_letOut hA hgr5) mf_X9_letOut im_X9_letOut se_X9_letOut ml_X10_29 rfl wx_41 (by decide) (by decide) rfl (Nat.le_of_ble_eq_true rfl) dX10_goOn_12 rfl rfl ?_
  refine x_aload_n g 0 dX10_goOn_15 rfl rfl ?_
  obtain ⟨⟨σ8, r7⟩, hgr7, hf⟩ := obind hf
  refine x_callV (r := (RX10, TX10, 3)) g xl [] [.int r5] [.int r7, .int r5] (c_X10_moveLetters hA hgr7) mf_X10_moveLetters im_X10_moveLetters se_X10_moveLetters ml_X10_35 rfl wx_57 (by decide) (by decide) rfl (Nat.le_of_ble_eq_true rfl) dX10_goOn_16 rfl rfl ?_
  refine x_iadd g dX10_goOn_19 ?_
  refine x_istore_n (lv' := [(1, .int (r5 + r7)), (0, .ref (Ad 57))]) g dX10_goOn_20 rfl (by decide) rfl ?_
  refine x_aload_n g 1 dX10_goOn_21 rfl rfl ?_
  refine x_get g fl_X10_9 wx_57 rfl dX10_goOn_22 ?_
  refine x_dup g dX10_goOn_25 rfl ?_
  refine x_get g fl_X10_38 wx_6 rfl dX10_goOn_26 ?_
  refine x_iconst g 1 dX10_goOn_29 (by decide) ?_
  refine x_iadd g dX10_goOn_30 ?_
  refine x_putB g tyX1 fl_X10_38 tyX1_ok nmX1 wx_6 rfl rfl rfl (Nat.le_of_ble_eq_true rfl) (sx_6_2 _) dX10_goOn_31 hf (fun σ9 hf => ?_)
  refine x_iload_n g 0 dX10_goOn_34 rfl rfl ?_
  cases hf
  exact x_iret g rfl ho dX10_goOn_35
/-! SlotChip.run(I)I -/
def f_X11_run_L31b (v1 : Int32) (K31 : St → Int32 → Int32 → Option (St × Int32)) (σ : St) (v2 : Int32) (v3 : Int32) : Option (St × Int32) :=
  if v3 < v1 then
    ((f_X10_goOn σ).bind fun (σ3, r2) =>
    K31 σ3 (v2 + r2) (v3 + 1))
  else
    some (σ, v2)
def f_X11_run_L31 (v1 : Int32) : Nat → St → Int32 → Int32 → Option (St × Int32)
  | 0 => fun _ _ _ => none
  | n + 1 => f_X11_run_L31b v1 (f_X11_run_L31 v1 n)
def f_X11_run (σ : St) (p1 : Int32) : Option (St × Int32) :=
  if 1 ≤ p1 then
    (if 40 < p1 then
      some (σ, (-102))
    else
      ((f_X1_isThere σ).bind fun r1 =>
      if r1 = 0 then
        some (σ, (-103))
      else
        f_X11_run_L31 p1 FU σ 0 0))
  else
    some (σ, (-102))
set_option maxHeartbeats 4000000 in
set_option maxRecDepth 100000 in
theorem l_X11_run_L31 {E : EV} {l : Launch} {D : va_G} {cy : Nat → ClassId} {Ad : Nat → Nat} {out : St × Option Value} {o : (St × Int32)} (hA : AdOK 58 Ad) (xl : XL E l D (AdA 58 Ad)) (g : XG E (wX cy Ad) cy cX11_run RX11 4 6 (some .int) out) (v1 : Int32) (ho : out = (o.1, (some (.int o.2)))) : ∀ (n : Nat) (σ : St) (v2 : Int32) (v3 : Int32), f_X11_run_L31 v1 n σ v2 v3 = some o → XJ E (wX cy Ad σ) 31 [(0, .ref (Ad 0)), (1, .int v1), (2, .int v2), (3, .int v3)] [] := by
  intro n
  induction n with
  | zero => intro _ _ _ hf; cases hf
  | succ n ih31 =>
    intro σ v2 v3 hf
    replace hf : f_X11_run_L31b v1 (f_X11_run_L31 v1 n) σ v2 v3 = some o := hf
    unfold f_X11_run_L31b at hf
    refine x_iload_n g 3 dX11_run_31 rfl rfl ?_
    refine x_iload_n g 1 dX11_run_32 rfl rfl ?_
    refine x_icmp_ge g 52 dX11_run_33 (by decide) hf (fun c33 hf => ?_) (fun c33 hf => ?_)
    · refine x_iload_n g 2 dX11_run_36 rfl rfl ?_
      refine x_aload_n g 0 dX11_run_37 rfl rfl ?_
      refine x_get g fl_X11_51 wx_0 rfl dX11_run_38 ?_
      obtain ⟨⟨σ3, r2⟩, hgr2, hf⟩ := obind hf
      refine x_callV (r := (RX10, TX10, 3)) g xl [] [.int v2] [.int r2, .int v2] (c_X10_goOn hA hgr2) mf_X10_goOn im_X10_goOn se_X10_goOn ml_X11_247 rfl wx_57 (by decide) (by decide) rfl (Nat.le_of_ble_eq_true rfl) dX11_run_41 rfl rfl ?_
      refine x_iadd g dX11_run_44 ?_
      refine x_istore_n (lv' := [(2, .int (v2 + r2)), (0, .ref (Ad 0)), (1, .int v1), (3, .int v3)]) g dX11_run_45 rfl (by decide) rfl ?_
      refine x_iinc g 3 (v3 + 1) (lv' := [(3, .int (v3 + 1)), (2, .int (v2 + r2)), (0, .ref (Ad 0)), (1, .int v1)]) dX11_run_46 rfl (by rfl) (by decide) rfl ?_
      refine x_goto g 31 dX11_run_49 (by decide) ?_
      exact x_sub [2, 3, 1, 0] rfl (ih31 _ _ _ hf)
    · refine x_iload_n g 2 dX11_run_52 rfl rfl ?_
      cases hf
      exact x_iret g rfl ho dX11_run_53
set_option maxHeartbeats 4000000 in
set_option maxRecDepth 100000 in
theorem c_X11_run {l : Launch} {D : va_G} {cy : Nat → ClassId} {Ad : Nat → Nat} (hA : AdOK 58 Ad) {σ : St} {p1 : Int32} {o : (St × Int32)} (hf : f_X11_run σ p1 = some o) : CT l (wX cy Ad) D cy (AdA 58 Ad) yX11_run cX11_run 4 (some .int) 6 [.ref (Ad 0), .int p1] σ (o.1, (some (.int o.2))) := by
  refine CT.of mf_X11_run (wX_D hA) (Nat.le_of_ble_eq_true rfl) ?_
  intro E xl g
  have ho : ((o.1, (some (.int o.2))) : St × Option Value) = (o.1, (some (.int o.2))) := rfl
  unfold f_X11_run at hf
  show XJ E (wX cy Ad σ) 0 [(0, .ref (Ad 0)), (1, .int p1)] []
  refine x_iload_n g 1 dX11_run_0 rfl rfl ?_
  refine x_iconst g 1 dX11_run_1 (by decide) ?_
  refine x_icmp_lt g 11 dX11_run_2 (by decide) hf (fun c2 hf => ?_) (fun c2 hf => ?_)
  · refine x_iload_n g 1 dX11_run_5 rfl rfl ?_
    refine x_bipush g 40 dX11_run_6 (by decide) ?_
    refine x_icmp_le g 14 dX11_run_8 (by decide) hf (fun c8 hf => ?_) (fun c8 hf => ?_)
    · refine x_bipush g (-102) dX11_run_11 (by decide) ?_
      cases hf
      exact x_iret g rfl ho dX11_run_13
    · refine x_aload_n g 0 dX11_run_14 rfl rfl ?_
      refine x_get g fl_X11_19 wx_0 rfl dX11_run_15 ?_
      obtain ⟨r1, hgr1, hf⟩ := obind hf
      refine x_callV (r := (RX1, TX1, 6)) g xl [] [] [.int r1] (c_X1_isThere hA hgr1) mf_X1_isThere im_X1_isThere se_X1_isThere ml_X11_91 rfl wx_6 (by decide) (by decide) rfl (Nat.le_of_ble_eq_true rfl) dX11_run_18 rfl rfl ?_
      refine x_if_ne g 27 dX11_run_21 (by decide) hf (fun c21 hf => ?_) (fun c21 hf => ?_)
      · refine x_bipush g (-103) dX11_run_24 (by decide) ?_
        cases hf
        exact x_iret g rfl ho dX11_run_26
      · refine x_iconst g 0 dX11_run_27 (by decide) ?_
        refine x_istore_n (lv' := [(2, .int 0), (0, .ref (Ad 0)), (1, .int p1)]) g dX11_run_28 rfl (by decide) rfl ?_
        refine x_iconst g 0 dX11_run_29 (by decide) ?_
        refine x_istore_n (lv' := [(3, .int 0), (2, .int 0), (0, .ref (Ad 0)), (1, .int p1)]) g dX11_run_30 rfl (by decide) rfl ?_
        exact x_sub [2, 3, 1, 0] rfl (l_X11_run_L31 hA xl g _ ho FU _ _ _ hf)
  · refine x_bipush g (-102) dX11_run_11 (by decide) ?_
    cases hf
    exact x_iret g rfl ho dX11_run_13
/-! SlotChip$Strays.draw(I)I -/
def f_X9_draw (σ : St) (p1 : Int32) : Option (St × Int32) :=
  bnd (si σ 8 0 5 (Int64.toInt32 (((1103515245 * (Int32.toInt64 (σ.1 8 0 5))) + 12345) &&& 2147483647))) fun σ1 =>
  if p1 < 1 then
    some (σ1, 0)
  else
    (chk (¬ p1 = 0) (
      some (σ1, (remI ((σ1.1 8 0 5) / 65536) p1))))
set_option maxHeartbeats 4000000 in
set_option maxRecDepth 100000 in
theorem c_X9_draw {l : Launch} {D : va_G} {cy : Nat → ClassId} {Ad : Nat → Nat} (hA : AdOK 58 Ad) {σ : St} {p1 : Int32} {o : (St × Int32)} (hf : f_X9_draw σ p1 = some o) : CT l (wX cy Ad) D cy (AdA 58 Ad) yX9_draw cX9_draw 2 (some .int) 0 [.ref (Ad 41), .int p1] σ (o.1, (some (.int o.2))) := by
  refine CT.of mf_X9_draw (wX_D hA) (Nat.le_of_ble_eq_true rfl) ?_
  intro E xl g
  have ho : ((o.1, (some (.int o.2))) : St × Option Value) = (o.1, (some (.int o.2))) := rfl
  unfold f_X9_draw at hf
  show XJ E (wX cy Ad σ) 0 [(0, .ref (Ad 41)), (1, .int p1)] []
  refine x_aload_n g 0 dX9_draw_0 rfl rfl ?_
  refine x_ldc2 g kl_X9_69 dX9_draw_1 ?_
  refine x_aload_n g 0 dX9_draw_4 rfl rfl ?_
  refine x_get g fl_X9_48 wx_41 rfl dX9_draw_5 ?_
  refine x_i2l g dX9_draw_8 ?_
  refine x_lmul g dX9_draw_9 ?_
  refine x_ldc2 g kl_X9_71 dX9_draw_10 ?_
  refine x_ladd g dX9_draw_13 ?_
  refine x_ldc2 g kl_X9_73 dX9_draw_14 ?_
  refine x_land g dX9_draw_17 ?_
  refine x_l2i g dX9_draw_18 ?_
  refine x_putB g tyX9 fl_X9_48 tyX9_ok nmX9 wx_41 rfl rfl rfl (Nat.le_of_ble_eq_true rfl) (sx_41_5 _) dX9_draw_19 hf (fun σ1 hf => ?_)
  refine x_iload_n g 1 dX9_draw_22 rfl rfl ?_
  refine x_iconst g 1 dX9_draw_23 (by decide) ?_
  refine x_icmp_ge g 31 dX9_draw_24 (by decide) hf (fun c24 hf => ?_) (fun c24 hf => ?_)
  · refine x_iconst g 0 dX9_draw_27 (by decide) ?_
    refine x_goto g 40 dX9_draw_28 (by decide) ?_
    cases hf
    exact x_iret g rfl ho dX9_draw_40
  · refine x_aload_n g 0 dX9_draw_31 rfl rfl ?_
    refine x_get g fl_X9_48 wx_41 rfl dX9_draw_32 ?_
    refine x_ldc g kc_X9_75 dX9_draw_35 ?_
    refine x_idiv g dX9_draw_37 (by decide) ?_
    refine x_iload_n g 1 dX9_draw_38 rfl rfl ?_
    have hz := (chk_some hf).1
    replace hf := (chk_some hf).2
    refine x_irem g dX9_draw_39 hz ?_
    cases hf
    exact x_iret g rfl ho dX9_draw_40
/-! SlotChip$Strays.addDrawn(II)I -/
def f_X9_addDrawn_L13b (v1 : Int32) (v3 : Int32) (K13 : St → Int32 → Option (St × Int32)) (σ : St) (v4 : Int32) : Option (St × Int32) :=
  if v4 < v1 then
    (if (σ.1 8 0 0) < 12 then
      ((f_X4_routers σ 1).bind fun r2 =>
      (f_X9_draw σ r2).bind fun (σ4, r3) =>
      (f_X4_routers σ4 1).bind fun r5 =>
      (f_X9_draw σ4 r5).bind fun (σ7, r6) =>
      (f_X9_draw σ7 2).bind fun (σ9, r8) =>
      if r8 = 1 then
        ((f_X9_add σ9 r3 r6 1).bind fun (σ11, r10) =>
        K13 σ11 (v4 + 1))
      else
        ((f_X9_add σ9 r3 r6 0).bind fun (σ13, r12) =>
        K13 σ13 (v4 + 1)))
    else
      some (σ, ((σ.1 8 0 0) - v3)))
  else
    some (σ, ((σ.1 8 0 0) - v3))
def f_X9_addDrawn_L13 (v1 : Int32) (v3 : Int32) : Nat → St → Int32 → Option (St × Int32)
  | 0 => fun _ _ => none
  | n + 1 => f_X9_addDrawn_L13b v1 v3 (f_X9_addDrawn_L13 v1 v3 n)
def f_X9_addDrawn (σ : St) (p1 : Int32) (p2 : Int32) : Option (St × Int32) :=
  bnd (si σ 8 0 5 p2) fun σ1 =>
  f_X9_addDrawn_L13 p1 (σ1.1 8 0 0) FU σ1 0
set_option maxHeartbeats 4000000 in
set_option maxRecDepth 100000 in
theorem l_X9_addDrawn_L13 {E : EV} {l : Launch} {D : va_G} {cy : Nat → ClassId} {Ad : Nat → Nat} {out : St × Option Value} {o : (St × Int32)} (hA : AdOK 58 Ad) (xl : XL E l D (AdA 58 Ad)) (g : XG E (wX cy Ad) cy cX9_addDrawn RX9 7 2 (some .int) out) (v1 : Int32) (v3 : Int32) (ho : out = (o.1, (some (.int o.2)))) : ∀ (n : Nat) (σ : St) (v4 : Int32), f_X9_addDrawn_L13 v1 v3 n σ v4 = some o → XJ E (wX cy Ad σ) 13 [(0, .ref (Ad 41)), (1, .int v1), (3, .int v3), (4, .int v4)] [] := by
  intro n
  induction n with
  | zero => intro _ _ hf; cases hf
  | succ n ih13 =>
    intro σ v4 hf
    replace hf : f_X9_addDrawn_L13b v1 v3 (f_X9_addDrawn_L13 v1 v3 n) σ v4 = some o := hf
    unfold f_X9_addDrawn_L13b at hf
    refine x_iload g 3 dX9_addDrawn_13 rfl ?_
    refine x_iload_n g 1 dX9_addDrawn_15 rfl rfl ?_
    refine x_icmp_ge g 89 dX9_addDrawn_16 (by decide) hf (fun c16 hf => ?_) (fun c16 hf => ?_)
    · refine x_aload_n g 0 dX9_addDrawn_19 rfl rfl ?_
      refine x_get g fl_X9_32 wx_41 rfl dX9_addDrawn_20 ?_
      refine x_bipush g 12 dX9_addDrawn_23 (by decide) ?_
      refine x_icmp_ge g 89 dX9_addDrawn_25 (by decide) hf (fun c25 hf => ?_) (fun c25 hf => ?_)
      · refine x_aload_n g 0 dX9_addDrawn_28 rfl rfl ?_
        refine x_aload_n g 0 dX9_addDrawn_29 rfl rfl ?_
        refine x_get g fl_X9_27 wx_41 rfl dX9_addDrawn_30 ?_
        refine x_get g fl_X9_51 wx_6 rfl dX9_addDrawn_33 ?_
        obtain ⟨r2, hgr2, hf⟩ := obind hf
        refine x_callV (r := (RX4, TX4, 3)) g xl [] [.ref (Ad 41)] [.int r2, .ref (Ad 41)] (c_X4_routers hA (by decide) hgr2) mf_X4_routers im_X4_routers se_X4_routers ml_X9_55 rfl wx_7 (by decide) (by decide) rfl (Nat.le_of_ble_eq_true rfl) dX9_addDrawn_36 rfl rfl ?_
        obtain ⟨⟨σ4, r3⟩, hgr3, hf⟩ := obind hf
        refine x_callV (r := (RX9, TX9, 6)) g xl [.int r2] [] [.int r3] (c_X9_draw hA hgr3) mf_X9_draw im_X9_draw se_X9_draw ml_X9_61 rfl wx_41 (by decide) (by decide) rfl (Nat.le_of_ble_eq_true rfl) dX9_addDrawn_39 rfl rfl ?_
        refine x_istore (lv' := [(5, .int r3), (0, .ref (Ad 41)), (1, .int v1), (3, .int v3), (4, .int v4)]) g dX9_addDrawn_42 (by decide) rfl ?_
        refine x_aload_n g 1 dX9_addDrawn_44 rfl rfl ?_
        refine x_aload_n g 1 dX9_addDrawn_45 rfl rfl ?_
        refine x_get g fl_X9_27 wx_41 rfl dX9_addDrawn_46 ?_
        refine x_get g fl_X9_51 wx_6 rfl dX9_addDrawn_49 ?_
        obtain ⟨r5, hgr5, hf⟩ := obind hf
        refine x_callV (r := (RX4, TX4, 3)) g xl [] [.ref (Ad 41)] [.int r5, .ref (Ad 41)] (c_X4_routers hA (by decide) hgr5) mf_X4_routers im_X4_routers se_X4_routers ml_X9_55 rfl wx_7 (by decide) (by decide) rfl (Nat.le_of_ble_eq_true rfl) dX9_addDrawn_52 rfl rfl ?_
        obtain ⟨⟨σ7, r6⟩, hgr6, hf⟩ := obind hf
        refine x_callV (r := (RX9, TX9, 6)) g xl [.int r5] [] [.int r6] (c_X9_draw hA hgr6) mf_X9_draw im_X9_draw se_X9_draw ml_X9_61 rfl wx_41 (by decide) (by decide) rfl (Nat.le_of_ble_eq_true rfl) dX9_addDrawn_55 rfl rfl ?_
        refine x_istore (lv' := [(6, .int r6), (5, .int r3), (0, .ref (Ad 41)), (1, .int v1), (3, .int v3), (4, .int v4)]) g dX9_addDrawn_58 (by decide) rfl ?_
        refine x_aload_n g 2 dX9_addDrawn_60 rfl rfl ?_
        refine x_iload g 1 dX9_addDrawn_61 rfl ?_
        refine x_iload g 0 dX9_addDrawn_63 rfl ?_
        refine x_aload_n g 2 dX9_addDrawn_65 rfl rfl ?_
        refine x_iconst g 2 dX9_addDrawn_66 (by decide) ?_
        obtain ⟨⟨σ9, r8⟩, hgr8, hf⟩ := obind hf
        refine x_callV (r := (RX9, TX9, 6)) g xl [.int 2] [.int r6, .int r3, .ref (Ad 41)] [.int r8, .int r6, .int r3, .ref (Ad 41)] (c_X9_draw hA hgr8) mf_X9_draw im_X9_draw se_X9_draw ml_X9_61 rfl wx_41 (by decide) (by decide) rfl (Nat.le_of_ble_eq_true rfl) dX9_addDrawn_67 rfl rfl ?_
        refine x_iconst g 1 dX9_addDrawn_70 (by decide) ?_
        refine x_icmp_ne g 78 dX9_addDrawn_71 (by decide) hf (fun c71 hf => ?_) (fun c71 hf => ?_)
        · refine x_iconst g 1 dX9_addDrawn_74 (by decide) ?_
          refine x_goto g 79 dX9_addDrawn_75 (by decide) ?_
          obtain ⟨⟨σ11, r10⟩, hgr10, hf⟩ := obind hf
          refine x_callV (r := (RX9, TX9, 6)) g xl [.int r3, .int r6, .int 1] [] [.int r10] (c_X9_add hA hgr10) mf_X9_add im_X9_add se_X9_add ml_X9_65 rfl wx_41 (by decide) (by decide) rfl (Nat.le_of_ble_eq_true rfl) dX9_addDrawn_79 rfl rfl ?_
          refine x_pop g dX9_addDrawn_82 rfl ?_
          refine x_iinc g 5 (v4 + 1) (lv' := [(4, .int (v4 + 1)), (6, .int r6), (5, .int r3), (0, .ref (Ad 41)), (1, .int v1), (3, .int v3)]) dX9_addDrawn_83 rfl (by rfl) (by decide) rfl ?_
          refine x_goto g 13 dX9_addDrawn_86 (by decide) ?_
          exact x_sub [3, 4, 5, 0] rfl (ih13 _ _ hf)
        · refine x_iconst g 0 dX9_addDrawn_78 (by decide) ?_
          obtain ⟨⟨σ13, r12⟩, hgr12, hf⟩ := obind hf
          refine x_callV (r := (RX9, TX9, 6)) g xl [.int r3, .int r6, .int 0] [] [.int r12] (c_X9_add hA hgr12) mf_X9_add im_X9_add se_X9_add ml_X9_65 rfl wx_41 (by decide) (by decide) rfl (Nat.le_of_ble_eq_true rfl) dX9_addDrawn_79 rfl rfl ?_
          refine x_pop g dX9_addDrawn_82 rfl ?_
          refine x_iinc g 5 (v4 + 1) (lv' := [(4, .int (v4 + 1)), (6, .int r6), (5, .int r3), (0, .ref (Ad 41)), (1, .int v1), (3, .int v3)]) dX9_addDrawn_83 rfl (by rfl) (by decide) rfl ?_
          refine x_goto g 13 dX9_addDrawn_86 (by decide) ?_
          exact x_sub [3, 4, 5, 0] rfl (ih13 _ _ hf)
      · refine x_aload_n g 0 dX9_addDrawn_89 rfl rfl ?_
        refine x_get g fl_X9_32 wx_41 rfl dX9_addDrawn_90 ?_
        refine x_iload_n g 2 dX9_addDrawn_93 rfl rfl ?_
        refine x_isub g dX9_addDrawn_94 ?_
        cases hf
        exact x_iret g rfl ho dX9_addDrawn_95
    · refine x_aload_n g 0 dX9_addDrawn_89 rfl rfl ?_
      refine x_get g fl_X9_32 wx_41 rfl dX9_addDrawn_90 ?_
      refine x_iload_n g 2 dX9_addDrawn_93 rfl rfl ?_
      refine x_isub g dX9_addDrawn_94 ?_
      cases hf
      exact x_iret g rfl ho dX9_addDrawn_95
set_option maxHeartbeats 4000000 in
set_option maxRecDepth 100000 in
theorem c_X9_addDrawn {l : Launch} {D : va_G} {cy : Nat → ClassId} {Ad : Nat → Nat} (hA : AdOK 58 Ad) {σ : St} {p1 : Int32} {p2 : Int32} {o : (St × Int32)} (hf : f_X9_addDrawn σ p1 p2 = some o) : CT l (wX cy Ad) D cy (AdA 58 Ad) yX9_addDrawn cX9_addDrawn 7 (some .int) 2 [.ref (Ad 41), .int p1, .int p2] σ (o.1, (some (.int o.2))) := by
  refine CT.of mf_X9_addDrawn (wX_D hA) (Nat.le_of_ble_eq_true rfl) ?_
  intro E xl g
  have ho : ((o.1, (some (.int o.2))) : St × Option Value) = (o.1, (some (.int o.2))) := rfl
  unfold f_X9_addDrawn at hf
  show XJ E (wX cy Ad σ) 0 [(0, .ref (Ad 41)), (1, .int p1), (2, .int p2)] []
  refine x_aload_n g 0 dX9_addDrawn_0 rfl rfl ?_
  refine x_iload_n g 2 dX9_addDrawn_1 rfl rfl ?_
  refine x_putB g tyX9 fl_X9_48 tyX9_ok nmX9 wx_41 rfl rfl rfl (Nat.le_of_ble_eq_true rfl) (sx_41_5 _) dX9_addDrawn_2 hf (fun σ1 hf => ?_)
  refine x_aload_n g 0 dX9_addDrawn_5 rfl rfl ?_
  refine x_get g fl_X9_32 wx_41 rfl dX9_addDrawn_6 ?_
  refine x_istore_n (lv' := [(3, .int (σ1.1 8 0 0)), (0, .ref (Ad 41)), (1, .int p1), (2, .int p2)]) g dX9_addDrawn_9 rfl (by decide) rfl ?_
  refine x_iconst g 0 dX9_addDrawn_10 (by decide) ?_
  refine x_istore (lv' := [(4, .int 0), (3, .int (σ1.1 8 0 0)), (0, .ref (Ad 41)), (1, .int p1), (2, .int p2)]) g dX9_addDrawn_11 (by decide) rfl ?_
  exact x_sub [2, 3, 1, 0] rfl (l_X9_addDrawn_L13 hA xl g _ _ ho FU _ _ hf)
/-! SlotChip.storm(II)I -/
def f_X11_storm (σ : St) (p1 : Int32) (p2 : Int32) : Option (St × Int32) :=
  (f_X1_isThere σ).bind fun r1 =>
  if r1 = 0 then
    some (σ, (-103))
  else
    (if 1 ≤ p1 then
      (if p1 ≤ 12 then
        (if p2 < 0 then
          some (σ, (-102))
        else
          ((f_X9_addDrawn σ p1 p2).bind fun (σ3, r2) =>
          some (σ3, r2)))
      else
        some (σ, (-102)))
    else
      some (σ, (-102)))
set_option maxHeartbeats 4000000 in
set_option maxRecDepth 100000 in
theorem c_X11_storm {l : Launch} {D : va_G} {cy : Nat → ClassId} {Ad : Nat → Nat} (hA : AdOK 58 Ad) {σ : St} {p1 : Int32} {p2 : Int32} {o : (St × Int32)} (hf : f_X11_storm σ p1 p2 = some o) : CT l (wX cy Ad) D cy (AdA 58 Ad) yX11_storm cX11_storm 3 (some .int) 3 [.ref (Ad 0), .int p1, .int p2] σ (o.1, (some (.int o.2))) := by
  refine CT.of mf_X11_storm (wX_D hA) (Nat.le_of_ble_eq_true rfl) ?_
  intro E xl g
  have ho : ((o.1, (some (.int o.2))) : St × Option Value) = (o.1, (some (.int o.2))) := rfl
  unfold f_X11_storm at hf
  show XJ E (wX cy Ad σ) 0 [(0, .ref (Ad 0)), (1, .int p1), (2, .int p2)] []
  refine x_aload_n g 0 dX11_storm_0 rfl rfl ?_
  refine x_get g fl_X11_19 wx_0 rfl dX11_storm_1 ?_
  obtain ⟨r1, hgr1, hf⟩ := obind hf
  refine x_callV (r := (RX1, TX1, 6)) g xl [] [] [.int r1] (c_X1_isThere hA hgr1) mf_X1_isThere im_X1_isThere se_X1_isThere ml_X11_91 rfl wx_6 (by decide) (by decide) rfl (Nat.le_of_ble_eq_true rfl) dX11_storm_4 rfl rfl ?_
  refine x_if_ne g 13 dX11_storm_7 (by decide) hf (fun c7 hf => ?_) (fun c7 hf => ?_)
  · refine x_bipush g (-103) dX11_storm_10 (by decide) ?_
    cases hf
    exact x_iret g rfl ho dX11_storm_12
  · refine x_iload_n g 1 dX11_storm_13 rfl rfl ?_
    refine x_iconst g 1 dX11_storm_14 (by decide) ?_
    refine x_icmp_lt g 28 dX11_storm_15 (by decide) hf (fun c15 hf => ?_) (fun c15 hf => ?_)
    · refine x_iload_n g 1 dX11_storm_18 rfl rfl ?_
      refine x_bipush g 12 dX11_storm_19 (by decide) ?_
      refine x_icmp_gt g 28 dX11_storm_21 (by decide) hf (fun c21 hf => ?_) (fun c21 hf => ?_)
      · refine x_iload_n g 2 dX11_storm_24 rfl rfl ?_
        refine x_if_ge g 31 dX11_storm_25 (by decide) hf (fun c25 hf => ?_) (fun c25 hf => ?_)
        · refine x_bipush g (-102) dX11_storm_28 (by decide) ?_
          cases hf
          exact x_iret g rfl ho dX11_storm_30
        · refine x_aload_n g 0 dX11_storm_31 rfl rfl ?_
          refine x_get g fl_X11_42 wx_0 rfl dX11_storm_32 ?_
          refine x_iload_n g 1 dX11_storm_35 rfl rfl ?_
          refine x_iload_n g 2 dX11_storm_36 rfl rfl ?_
          obtain ⟨⟨σ3, r2⟩, hgr2, hf⟩ := obind hf
          refine x_callV (r := (RX9, TX9, 6)) g xl [.int p1, .int p2] [] [.int r2] (c_X9_addDrawn hA hgr2) mf_X9_addDrawn im_X9_addDrawn se_X9_addDrawn ml_X11_250 rfl wx_41 (by decide) (by decide) rfl (Nat.le_of_ble_eq_true rfl) dX11_storm_37 rfl rfl ?_
          cases hf
          exact x_iret g rfl ho dX11_storm_40
      · refine x_bipush g (-102) dX11_storm_28 (by decide) ?_
        cases hf
        exact x_iret g rfl ho dX11_storm_30
    · refine x_bipush g (-102) dX11_storm_28 (by decide) ?_
      cases hf
      exact x_iret g rfl ho dX11_storm_30
/-! SlotChip$Circuit.shareOf(I)I -/
def f_X2_shareOf (σ : St) (i : Nat) (p1 : Int32) : Option Int32 :=
  if p1 = 0 then
    some 1
  else
    (if p1 = 1 then
      ((f_X2_lettersUnderWay σ i).bind fun r1 =>
      some r1)
    else
      (if p1 = 2 then
        some (σ.1 2 i 12)
      else
        (if p1 = 3 then
          some (σ.1 2 i 8)
        else
          some (σ.1 2 i 12))))
set_option maxHeartbeats 4000000 in
set_option maxRecDepth 100000 in
theorem c_X2_shareOf {l : Launch} {D : va_G} {cy : Nat → ClassId} {Ad : Nat → Nat} (hA : AdOK 58 Ad) {σ : St} {i : Nat} {p1 : Int32} (h_i : i < 8) {o : Int32} (hf : f_X2_shareOf σ i p1 = some o) : CT l (wX cy Ad) D cy (AdA 58 Ad) yX2_shareOf cX2_shareOf 2 (some .int) 1 [.ref (Ad (14 + 3 * i)), .int p1] σ (σ, (some (.int o))) := by
  refine CT.of mf_X2_shareOf (wX_D hA) (Nat.le_of_ble_eq_true rfl) ?_
  intro E xl g
  have ho : ((σ, (some (.int o))) : St × Option Value) = (σ, (some (.int o))) := rfl
  unfold f_X2_shareOf at hf
  show XJ E (wX cy Ad σ) 0 [(0, .ref (Ad (14 + 3 * i))), (1, .int p1)] []
  refine x_iload_n g 1 dX2_shareOf_0 rfl rfl ?_
  refine sp hf (fun n_1_0 hf => ?_) (fun n_1_0 hf => ?_)
  · refine x_tin g 0 31 32 dX2_shareOf_1 n_1_0 (by decide) ?_
    refine x_iconst g 1 dX2_shareOf_32 (by decide) ?_
    cases hf
    exact x_iret g rfl ho dX2_shareOf_33
  · refine sp hf (fun n_1_1 hf => ?_) (fun n_1_1 hf => ?_)
    · refine x_tin g 1 33 34 dX2_shareOf_1 n_1_1 (by decide) ?_
      refine x_aload_n g 0 dX2_shareOf_34 rfl rfl ?_
      obtain ⟨r1, hgr1, hf⟩ := obind hf
      refine x_callV (r := (RX2, TX2, 18)) g xl [] [] [.int r1] (c_X2_lettersUnderWay hA h_i hgr1) mf_X2_lettersUnderWay im_X2_lettersUnderWay se_X2_lettersUnderWay ml_X2_116 rfl (wx_C h_i) (by decide) (by decide) rfl (Nat.le_of_ble_eq_true rfl) dX2_shareOf_35 rfl rfl ?_
      cases hf
      exact x_iret g rfl ho dX2_shareOf_38
    · refine sp hf (fun n_1_2 hf => ?_) (fun n_1_2 hf => ?_)
      · refine x_tin g 2 43 44 dX2_shareOf_1 n_1_2 (by decide) ?_
        refine x_aload_n g 0 dX2_shareOf_44 rfl rfl ?_
        refine x_get g fl_X2_59 (wx_C h_i) rfl dX2_shareOf_45 ?_
        cases hf
        exact x_iret g rfl ho dX2_shareOf_48
      · refine sp hf (fun n_1_3 hf => ?_) (fun n_1_3 hf => ?_)
        · refine x_tin g 3 38 39 dX2_shareOf_1 n_1_3 (by decide) ?_
          refine x_aload_n g 0 dX2_shareOf_39 rfl rfl ?_
          refine x_get g fl_X2_47 (wx_C h_i) rfl dX2_shareOf_40 ?_
          cases hf
          exact x_iret g rfl ho dX2_shareOf_43
        · refine x_tout g 44 dX2_shareOf_1 (by have e0 := tI n_1_0 (by decide : (0 : Int32).toInt = 0); have e1 := tI n_1_1 (by decide : (1 : Int32).toInt = 1); have e2 := tI n_1_2 (by decide : (2 : Int32).toInt = 2); have e3 := tI n_1_3 (by decide : (3 : Int32).toInt = 3); omega) (by decide) ?_
          refine x_aload_n g 0 dX2_shareOf_44 rfl rfl ?_
          refine x_get g fl_X2_59 (wx_C h_i) rfl dX2_shareOf_45 ?_
          cases hf
          exact x_iret g rfl ho dX2_shareOf_48
/-! SlotChip$Circuits.sumOf(I)I -/
def f_X3_sumOf_L4b (σ : St) (v1 : Int32) (K4 : Int32 → Int32 → Option Int32) (v2 : Int32) (v3 : Int32) : Option Int32 :=
  if v3 < 8 then
    ((f_X3_find σ v3).bind fun r1 =>
    onR 8 r1
      (K4 (v2 + 0) (v3 + 1))
      (fun j2 =>
        (f_X2_shareOf σ j2 v1).bind fun r3 =>
        K4 (v2 + r3) (v3 + 1)))
  else
    some v2
def f_X3_sumOf_L4 (σ : St) (v1 : Int32) : Nat → Int32 → Int32 → Option Int32
  | 0 => fun _ _ => none
  | n + 1 => f_X3_sumOf_L4b σ v1 (f_X3_sumOf_L4 σ v1 n)
def f_X3_sumOf (σ : St) (p1 : Int32) : Option Int32 :=
  f_X3_sumOf_L4 σ p1 FU 0 0
set_option maxHeartbeats 4000000 in
set_option maxRecDepth 100000 in
theorem l_X3_sumOf_L4 {E : EV} {l : Launch} {D : va_G} {cy : Nat → ClassId} {Ad : Nat → Nat} {out : St × Option Value} {o : Int32} (hA : AdOK 58 Ad) (xl : XL E l D (AdA 58 Ad)) (g : XG E (wX cy Ad) cy cX3_sumOf RX3 5 2 (some .int) out) (σ : St) (v1 : Int32) (ho : out = (σ, (some (.int o)))) : ∀ (n : Nat) (v2 : Int32) (v3 : Int32), f_X3_sumOf_L4 σ v1 n v2 v3 = some o → XJ E (wX cy Ad σ) 4 [(0, .ref (Ad 12)), (1, .int v1), (2, .int v2), (3, .int v3)] [] := by
  intro n
  induction n with
  | zero => intro _ _ hf; cases hf
  | succ n ih4 =>
    intro v2 v3 hf
    replace hf : f_X3_sumOf_L4b σ v1 (f_X3_sumOf_L4 σ v1 n) v2 v3 = some o := hf
    unfold f_X3_sumOf_L4b at hf
    refine x_iload_n g 3 dX3_sumOf_4 rfl rfl ?_
    refine x_bipush g 8 dX3_sumOf_5 (by decide) ?_
    refine x_icmp_ge g 41 dX3_sumOf_7 (by decide) hf (fun c7 hf => ?_) (fun c7 hf => ?_)
    · refine x_aload_n g 0 dX3_sumOf_10 rfl rfl ?_
      refine x_iload_n g 3 dX3_sumOf_11 rfl rfl ?_
      obtain ⟨r1, hgr1, hf⟩ := obind hf
      refine onR_sp hf (fun e hf => ?_) (fun j2 h_j2 e hf => ?_)
      · rw [e] at hgr1
        refine x_callV (r := (RX3, TX3, 1)) g xl [.int v3] [] [.null] (c_X3_find hA hgr1) mf_X3_find im_X3_find se_X3_find ml_X3_24 rfl wx_12 (by decide) (by decide) rfl (Nat.le_of_ble_eq_true rfl) dX3_sumOf_12 rfl rfl ?_
        refine x_astoreN (lv' := [(4, .null), (0, .ref (Ad 12)), (1, .int v1), (2, .int v2), (3, .int v3)]) g dX3_sumOf_15 (by decide) rfl ?_
        refine x_iload_n g 3 dX3_sumOf_17 rfl rfl ?_
        refine x_aloadN g 0 dX3_sumOf_18 rfl ?_
        refine x_ifnonnullN g dX3_sumOf_20 ?_
        refine x_iconst g 0 dX3_sumOf_23 (by decide) ?_
        refine x_goto g 33 dX3_sumOf_24 (by decide) ?_
        refine x_iadd g dX3_sumOf_33 ?_
        refine x_istore_n (lv' := [(2, .int (v2 + 0)), (4, .null), (0, .ref (Ad 12)), (1, .int v1), (3, .int v3)]) g dX3_sumOf_34 rfl (by decide) rfl ?_
        refine x_iinc g 4 (v3 + 1) (lv' := [(3, .int (v3 + 1)), (2, .int (v2 + 0)), (4, .null), (0, .ref (Ad 12)), (1, .int v1)]) dX3_sumOf_35 rfl (by rfl) (by decide) rfl ?_
        refine x_goto g 4 dX3_sumOf_38 (by decide) ?_
        exact x_sub [3, 4, 1, 0] rfl (ih4 _ _ hf)
      · rw [e] at hgr1
        refine x_callV (r := (RX3, TX3, 1)) g xl [.int v3] [] [.ref (Ad (14 + 3 * j2))] (c_X3_find hA hgr1) mf_X3_find im_X3_find se_X3_find ml_X3_24 rfl wx_12 (by decide) (by decide) rfl (Nat.le_of_ble_eq_true rfl) dX3_sumOf_12 rfl rfl ?_
        refine x_astore (lv' := [(4, .ref (Ad (14 + 3 * j2))), (0, .ref (Ad 12)), (1, .int v1), (2, .int v2), (3, .int v3)]) g dX3_sumOf_15 (by decide) rfl ?_
        refine x_iload_n g 3 dX3_sumOf_17 rfl rfl ?_
        refine x_aload g 0 dX3_sumOf_18 rfl ?_
        refine x_ifnonnull g 27 dX3_sumOf_20 (by decide) ?_
        refine x_aload g 0 dX3_sumOf_27 rfl ?_
        refine x_iload_n g 2 dX3_sumOf_29 rfl rfl ?_
        obtain ⟨r3, hgr3, hf⟩ := obind hf
        refine x_callV (r := (RX2, TX2, 18)) g xl [.int v1] [.int v2] [.int r3, .int v2] (c_X2_shareOf hA h_j2 hgr3) mf_X2_shareOf im_X2_shareOf se_X2_shareOf ml_X3_36 rfl (wx_C h_j2) (by decide) (by decide) rfl (Nat.le_of_ble_eq_true rfl) dX3_sumOf_30 rfl rfl ?_
        refine x_iadd g dX3_sumOf_33 ?_
        refine x_istore_n (lv' := [(2, .int (v2 + r3)), (4, .ref (Ad (14 + 3 * j2))), (0, .ref (Ad 12)), (1, .int v1), (3, .int v3)]) g dX3_sumOf_34 rfl (by decide) rfl ?_
        refine x_iinc g 4 (v3 + 1) (lv' := [(3, .int (v3 + 1)), (2, .int (v2 + r3)), (4, .ref (Ad (14 + 3 * j2))), (0, .ref (Ad 12)), (1, .int v1)]) dX3_sumOf_35 rfl (by rfl) (by decide) rfl ?_
        refine x_goto g 4 dX3_sumOf_38 (by decide) ?_
        exact x_sub [3, 4, 1, 0] rfl (ih4 _ _ hf)
    · refine x_iload_n g 2 dX3_sumOf_41 rfl rfl ?_
      cases hf
      exact x_iret g rfl ho dX3_sumOf_42
set_option maxHeartbeats 4000000 in
set_option maxRecDepth 100000 in
theorem c_X3_sumOf {l : Launch} {D : va_G} {cy : Nat → ClassId} {Ad : Nat → Nat} (hA : AdOK 58 Ad) {σ : St} {p1 : Int32} {o : Int32} (hf : f_X3_sumOf σ p1 = some o) : CT l (wX cy Ad) D cy (AdA 58 Ad) yX3_sumOf cX3_sumOf 5 (some .int) 2 [.ref (Ad 12), .int p1] σ (σ, (some (.int o))) := by
  refine CT.of mf_X3_sumOf (wX_D hA) (Nat.le_of_ble_eq_true rfl) ?_
  intro E xl g
  have ho : ((σ, (some (.int o))) : St × Option Value) = (σ, (some (.int o))) := rfl
  unfold f_X3_sumOf at hf
  show XJ E (wX cy Ad σ) 0 [(0, .ref (Ad 12)), (1, .int p1)] []
  refine x_iconst g 0 dX3_sumOf_0 (by decide) ?_
  refine x_istore_n (lv' := [(2, .int 0), (0, .ref (Ad 12)), (1, .int p1)]) g dX3_sumOf_1 rfl (by decide) rfl ?_
  refine x_iconst g 0 dX3_sumOf_2 (by decide) ?_
  refine x_istore_n (lv' := [(3, .int 0), (2, .int 0), (0, .ref (Ad 12)), (1, .int p1)]) g dX3_sumOf_3 rfl (by decide) rfl ?_
  exact x_sub [2, 3, 1, 0] rfl (l_X3_sumOf_L4 hA xl g _ _ ho FU _ _ hf)
/-! SlotChip.count(I)I -/
def f_X11_count (σ : St) (p1 : Int32) : Option Int32 :=
  if p1 = 0 then
    ((f_X3_sumOf σ p1).bind fun r1 =>
    some r1)
  else
    (if p1 = 1 then
      ((f_X3_sumOf σ p1).bind fun r2 =>
      some r2)
    else
      (if p1 = 2 then
        some (σ.1 8 0 0)
      else
        (if p1 = 3 then
          ((f_X3_sumOf σ p1).bind fun r3 =>
          some r3)
        else
          (if p1 = 4 then
            ((f_X3_sumOf σ p1).bind fun r4 =>
            some r4)
          else
            (if p1 = 5 then
              some (σ.1 5 0 0)
            else
              (if p1 = 6 then
                some (σ.1 10 0 6)
              else
                some (-102)))))))
set_option maxHeartbeats 4000000 in
set_option maxRecDepth 100000 in
theorem c_X11_count {l : Launch} {D : va_G} {cy : Nat → ClassId} {Ad : Nat → Nat} (hA : AdOK 58 Ad) {σ : St} {p1 : Int32} {o : Int32} (hf : f_X11_count σ p1 = some o) : CT l (wX cy Ad) D cy (AdA 58 Ad) yX11_count cX11_count 2 (some .int) 3 [.ref (Ad 0), .int p1] σ (σ, (some (.int o))) := by
  refine CT.of mf_X11_count (wX_D hA) (Nat.le_of_ble_eq_true rfl) ?_
  intro E xl g
  have ho : ((σ, (some (.int o))) : St × Option Value) = (σ, (some (.int o))) := rfl
  unfold f_X11_count at hf
  show XJ E (wX cy Ad σ) 0 [(0, .ref (Ad 0)), (1, .int p1)] []
  refine x_iload_n g 1 dX11_count_0 rfl rfl ?_
  refine sp hf (fun n_1_0 hf => ?_) (fun n_1_0 hf => ?_)
  · refine x_tin g 0 43 44 dX11_count_1 n_1_0 (by decide) ?_
    refine x_aload_n g 0 dX11_count_44 rfl rfl ?_
    refine x_get g fl_X11_26 wx_0 rfl dX11_count_45 ?_
    refine x_iload_n g 1 dX11_count_48 rfl rfl ?_
    obtain ⟨r1, hgr1, hf⟩ := obind hf
    refine x_callV (r := (RX3, TX3, 1)) g xl [.int p1] [] [.int r1] (c_X3_sumOf hA hgr1) mf_X3_sumOf im_X3_sumOf se_X3_sumOf ml_X11_253 rfl wx_12 (by decide) (by decide) rfl (Nat.le_of_ble_eq_true rfl) dX11_count_49 rfl rfl ?_
    cases hf
    exact x_iret g rfl ho dX11_count_52
  · refine sp hf (fun n_1_1 hf => ?_) (fun n_1_1 hf => ?_)
    · refine x_tin g 1 43 44 dX11_count_1 n_1_1 (by decide) ?_
      refine x_aload_n g 0 dX11_count_44 rfl rfl ?_
      refine x_get g fl_X11_26 wx_0 rfl dX11_count_45 ?_
      refine x_iload_n g 1 dX11_count_48 rfl rfl ?_
      obtain ⟨r2, hgr2, hf⟩ := obind hf
      refine x_callV (r := (RX3, TX3, 1)) g xl [.int p1] [] [.int r2] (c_X3_sumOf hA hgr2) mf_X3_sumOf im_X3_sumOf se_X3_sumOf ml_X11_253 rfl wx_12 (by decide) (by decide) rfl (Nat.le_of_ble_eq_true rfl) dX11_count_49 rfl rfl ?_
      cases hf
      exact x_iret g rfl ho dX11_count_52
    · refine sp hf (fun n_1_2 hf => ?_) (fun n_1_2 hf => ?_)
      · refine x_tin g 2 52 53 dX11_count_1 n_1_2 (by decide) ?_
        refine x_aload_n g 0 dX11_count_53 rfl rfl ?_
        refine x_get g fl_X11_42 wx_0 rfl dX11_count_54 ?_
        refine x_get g fl_X11_225 wx_41 rfl dX11_count_57 ?_
        cases hf
        exact x_iret g rfl ho dX11_count_60
      · refine sp hf (fun n_1_3 hf => ?_) (fun n_1_3 hf => ?_)
        · refine x_tin g 3 43 44 dX11_count_1 n_1_3 (by decide) ?_
          refine x_aload_n g 0 dX11_count_44 rfl rfl ?_
          refine x_get g fl_X11_26 wx_0 rfl dX11_count_45 ?_
          refine x_iload_n g 1 dX11_count_48 rfl rfl ?_
          obtain ⟨r3, hgr3, hf⟩ := obind hf
          refine x_callV (r := (RX3, TX3, 1)) g xl [.int p1] [] [.int r3] (c_X3_sumOf hA hgr3) mf_X3_sumOf im_X3_sumOf se_X3_sumOf ml_X11_253 rfl wx_12 (by decide) (by decide) rfl (Nat.le_of_ble_eq_true rfl) dX11_count_49 rfl rfl ?_
          cases hf
          exact x_iret g rfl ho dX11_count_52
        · refine sp hf (fun n_1_4 hf => ?_) (fun n_1_4 hf => ?_)
          · refine x_tin g 4 43 44 dX11_count_1 n_1_4 (by decide) ?_
            refine x_aload_n g 0 dX11_count_44 rfl rfl ?_
            refine x_get g fl_X11_26 wx_0 rfl dX11_count_45 ?_
            refine x_iload_n g 1 dX11_count_48 rfl rfl ?_
            obtain ⟨r4, hgr4, hf⟩ := obind hf
            refine x_callV (r := (RX3, TX3, 1)) g xl [.int p1] [] [.int r4] (c_X3_sumOf hA hgr4) mf_X3_sumOf im_X3_sumOf se_X3_sumOf ml_X11_253 rfl wx_12 (by decide) (by decide) rfl (Nat.le_of_ble_eq_true rfl) dX11_count_49 rfl rfl ?_
            cases hf
            exact x_iret g rfl ho dX11_count_52
          · refine sp hf (fun n_1_5 hf => ?_) (fun n_1_5 hf => ?_)
            · refine x_tin g 5 60 61 dX11_count_1 n_1_5 (by decide) ?_
              refine x_aload_n g 0 dX11_count_61 rfl rfl ?_
              refine x_get g fl_X11_10 wx_0 rfl dX11_count_62 ?_
              refine x_get g fl_X11_63 wx_1 rfl dX11_count_65 ?_
              cases hf
              exact x_iret g rfl ho dX11_count_68
            · refine sp hf (fun n_1_6 hf => ?_) (fun n_1_6 hf => ?_)
              · refine x_tin g 6 68 69 dX11_count_1 n_1_6 (by decide) ?_
                refine x_aload_n g 0 dX11_count_69 rfl rfl ?_
                refine x_get g fl_X11_55 wx_0 rfl dX11_count_70 ?_
                cases hf
                exact x_iret g rfl ho dX11_count_73
              · refine x_tout g 74 dX11_count_1 (by have e0 := tI n_1_0 (by decide : (0 : Int32).toInt = 0); have e1 := tI n_1_1 (by decide : (1 : Int32).toInt = 1); have e2 := tI n_1_2 (by decide : (2 : Int32).toInt = 2); have e3 := tI n_1_3 (by decide : (3 : Int32).toInt = 3); have e4 := tI n_1_4 (by decide : (4 : Int32).toInt = 4); have e5 := tI n_1_5 (by decide : (5 : Int32).toInt = 5); have e6 := tI n_1_6 (by decide : (6 : Int32).toInt = 6); omega) (by decide) ?_
                refine x_bipush g (-102) dX11_count_74 (by decide) ?_
                cases hf
                exact x_iret g rfl ho dX11_count_76
/-! SlotChip.mix(JI)J -/
def f_X11_mix (p1 : Int64) (p2 : Int32) : Option Int64 :=
  some ((31 * p1) + (Int32.toInt64 p2))
set_option maxHeartbeats 4000000 in
set_option maxRecDepth 100000 in
theorem c_X11_mix {l : Launch} {D : va_G} {cy : Nat → ClassId} {Ad : Nat → Nat} (hA : AdOK 58 Ad) {σ : St} {p1 : Int64} {p2 : Int32} {o : Int64} (hf : f_X11_mix p1 p2 = some o) : CT l (wX cy Ad) D cy (AdA 58 Ad) yX11_mix cX11_mix 3 (some .long) 0 [.long p1, .int p2] σ (σ, (some (.long o))) := by
  refine CT.of mf_X11_mix (wX_D hA) (Nat.le_of_ble_eq_true rfl) ?_
  intro E xl g
  have ho : ((σ, (some (.long o))) : St × Option Value) = (σ, (some (.long o))) := rfl
  unfold f_X11_mix at hf
  show XJ E (wX cy Ad σ) 0 [(0, .long p1), (2, .int p2)] []
  refine x_ldc2 g kl_X11_285 dX11_mix_0 ?_
  refine x_lload_n g 0 dX11_mix_3 rfl rfl ?_
  refine x_lmul g dX11_mix_4 ?_
  refine x_iload_n g 1 dX11_mix_5 rfl rfl ?_
  refine x_i2l g dX11_mix_6 ?_
  refine x_ladd g dX11_mix_7 ?_
  cases hf
  exact x_lret g rfl ho dX11_mix_8
/-! SlotChip.mixBoard(J)J -/
def f_X11_mixBoard_L45b (K35 : Int64 → Int32 → Option Int64) (σ : St) (v5 : Int32) (K45 : Int64 → Int32 → Option Int64) (w3 : Int64) (v6 : Int32) : Option Int64 :=
  if v6 ≤ 3 then
    ((f_X4_hasLink σ 1 v5).bind fun r3 =>
    if r3 = 0 then
      K35 w3 (v5 + 1)
    else
      ((f_X1_tellLink σ v5 v6).bind fun r4 =>
      (f_X11_mix w3 r4).bind fun r5 =>
      K45 r5 (v6 + 1)))
  else
    K35 w3 (v5 + 1)
def f_X11_mixBoard_L45 (K35 : Int64 → Int32 → Option Int64) (σ : St) (v5 : Int32) : Nat → Int64 → Int32 → Option Int64
  | 0 => fun _ _ => none
  | n + 1 => f_X11_mixBoard_L45b K35 σ v5 (f_X11_mixBoard_L45 K35 σ v5 n)
def f_X11_mixBoard_L35b (σ : St) (K35 : Int64 → Int32 → Option Int64) (w3 : Int64) (v5 : Int32) : Option Int64 :=
  if v5 < 54 then
    f_X11_mixBoard_L45 K35 σ v5 FU w3 0
  else
    some w3
def f_X11_mixBoard_L35 (σ : St) : Nat → Int64 → Int32 → Option Int64
  | 0 => fun _ _ => none
  | n + 1 => f_X11_mixBoard_L35b σ (f_X11_mixBoard_L35 σ n)
def f_X11_mixBoard_L5b (σ : St) (K5 : Int64 → Int32 → Option Int64) (w3 : Int64) (v5 : Int32) : Option Int64 :=
  if v5 ≤ 7 then
    ((f_X1_tell σ v5).bind fun r1 =>
    (f_X11_mix w3 r1).bind fun r2 =>
    K5 r2 (v5 + 1))
  else
    f_X11_mixBoard_L35 σ FU w3 0
def f_X11_mixBoard_L5 (σ : St) : Nat → Int64 → Int32 → Option Int64
  | 0 => fun _ _ => none
  | n + 1 => f_X11_mixBoard_L5b σ (f_X11_mixBoard_L5 σ n)
def f_X11_mixBoard (σ : St) (p1 : Int64) : Option Int64 :=
  f_X11_mixBoard_L5 σ FU p1 0
set_option maxHeartbeats 4000000 in
set_option maxRecDepth 100000 in
theorem l_X11_mixBoard_L45 {E : EV} {l : Launch} {D : va_G} {cy : Nat → ClassId} {Ad : Nat → Nat} {out : St × Option Value} {o : Int64} (hA : AdOK 58 Ad) (xl : XL E l D (AdA 58 Ad)) (g : XG E (wX cy Ad) cy cX11_mixBoard RX11 7 4 (some .long) out) {K35 : Int64 → Int32 → Option Int64} (σ : St) (v5 : Int32) (ho : out = (σ, (some (.long o)))) (ih35 : ∀ (w3 : Int64) (v5 : Int32), K35 w3 v5 = some o → XJ E (wX cy Ad σ) 35 [(0, .ref (Ad 0)), (3, .long w3), (5, .int v5)] []) : ∀ (n : Nat) (w3 : Int64) (v6 : Int32), f_X11_mixBoard_L45 K35 σ v5 n w3 v6 = some o → XJ E (wX cy Ad σ) 45 [(0, .ref (Ad 0)), (3, .long w3), (5, .int v5), (6, .int v6)] [] := by
  intro n
  induction n with
  | zero => intro _ _ hf; cases hf
  | succ n ih45 =>
    intro w3 v6 hf
    replace hf : f_X11_mixBoard_L45b K35 σ v5 (f_X11_mixBoard_L45 K35 σ v5 n) w3 v6 = some o := hf
    unfold f_X11_mixBoard_L45b at hf
    refine x_iload g 3 dX11_mixBoard_45 rfl ?_
    refine x_iconst g 3 dX11_mixBoard_47 (by decide) ?_
    refine x_icmp_gt g 88 dX11_mixBoard_48 (by decide) hf (fun c48 hf => ?_) (fun c48 hf => ?_)
    · refine x_aload_n g 0 dX11_mixBoard_51 rfl rfl ?_
      refine x_get g fl_X11_19 wx_0 rfl dX11_mixBoard_52 ?_
      refine x_get g fl_X11_82 wx_6 rfl dX11_mixBoard_55 ?_
      refine x_iload g 2 dX11_mixBoard_58 rfl ?_
      obtain ⟨r3, hgr3, hf⟩ := obind hf
      refine x_callV (r := (RX4, TX4, 3)) g xl [.int v5] [] [.int r3] (c_X4_hasLink hA (by decide) hgr3) mf_X4_hasLink im_X4_hasLink se_X4_hasLink ml_X11_99 rfl wx_7 (by decide) (by decide) rfl (Nat.le_of_ble_eq_true rfl) dX11_mixBoard_60 rfl rfl ?_
      refine x_if_eq g 88 dX11_mixBoard_63 (by decide) hf (fun c63 hf => ?_) (fun c63 hf => ?_)
      · refine x_iinc g 2 (v5 + 1) (lv' := [(5, .int (v5 + 1)), (0, .ref (Ad 0)), (3, .long w3), (6, .int v6)]) dX11_mixBoard_88 rfl (by rfl) (by decide) rfl ?_
        refine x_goto g 35 dX11_mixBoard_91 (by decide) ?_
        exact x_sub [1, 2, 0] rfl (ih35 _ _ hf)
      · refine x_lload_n g 1 dX11_mixBoard_66 rfl rfl ?_
        refine x_aload_n g 0 dX11_mixBoard_67 rfl rfl ?_
        refine x_get g fl_X11_19 wx_0 rfl dX11_mixBoard_68 ?_
        refine x_iload g 2 dX11_mixBoard_71 rfl ?_
        refine x_iload g 3 dX11_mixBoard_73 rfl ?_
        obtain ⟨r4, hgr4, hf⟩ := obind hf
        refine x_callV (r := (RX1, TX1, 6)) g xl [.int v5, .int v6] [.long w3] [.int r4, .long w3] (c_X1_tellLink hA hgr4) mf_X1_tellLink im_X1_tellLink se_X1_tellLink ml_X11_102 rfl wx_6 (by decide) (by decide) rfl (Nat.le_of_ble_eq_true rfl) dX11_mixBoard_75 rfl rfl ?_
        obtain ⟨r5, hgr5, hf⟩ := obind hf
        refine x_callS g xl [.long w3, .int r4] [] [.long r5] (c_X11_mix hA hgr5) mf_X11_mix sm_X11_mix ml_X11_272 (by decide) (by decide) rfl (Nat.le_of_ble_eq_true rfl) dX11_mixBoard_78 rfl rfl ?_
        refine x_lstore_n (lv' := [(3, .long r5), (0, .ref (Ad 0)), (5, .int v5), (6, .int v6)]) g dX11_mixBoard_81 rfl (by decide) rfl ?_
        refine x_iinc g 3 (v6 + 1) (lv' := [(6, .int (v6 + 1)), (3, .long r5), (0, .ref (Ad 0)), (5, .int v5)]) dX11_mixBoard_82 rfl (by rfl) (by decide) rfl ?_
        refine x_goto g 45 dX11_mixBoard_85 (by decide) ?_
        exact x_sub [2, 1, 3, 0] rfl (ih45 _ _ hf)
    · refine x_iinc g 2 (v5 + 1) (lv' := [(5, .int (v5 + 1)), (0, .ref (Ad 0)), (3, .long w3), (6, .int v6)]) dX11_mixBoard_88 rfl (by rfl) (by decide) rfl ?_
      refine x_goto g 35 dX11_mixBoard_91 (by decide) ?_
      exact x_sub [1, 2, 0] rfl (ih35 _ _ hf)
set_option maxHeartbeats 4000000 in
set_option maxRecDepth 100000 in
theorem l_X11_mixBoard_L35 {E : EV} {l : Launch} {D : va_G} {cy : Nat → ClassId} {Ad : Nat → Nat} {out : St × Option Value} {o : Int64} (hA : AdOK 58 Ad) (xl : XL E l D (AdA 58 Ad)) (g : XG E (wX cy Ad) cy cX11_mixBoard RX11 7 4 (some .long) out) (σ : St) (ho : out = (σ, (some (.long o)))) : ∀ (n : Nat) (w3 : Int64) (v5 : Int32), f_X11_mixBoard_L35 σ n w3 v5 = some o → XJ E (wX cy Ad σ) 35 [(0, .ref (Ad 0)), (3, .long w3), (5, .int v5)] [] := by
  intro n
  induction n with
  | zero => intro _ _ hf; cases hf
  | succ n ih35 =>
    intro w3 v5 hf
    replace hf : f_X11_mixBoard_L35b σ (f_X11_mixBoard_L35 σ n) w3 v5 = some o := hf
    unfold f_X11_mixBoard_L35b at hf
    refine x_iload g 2 dX11_mixBoard_35 rfl ?_
    refine x_bipush g 54 dX11_mixBoard_37 (by decide) ?_
    refine x_icmp_ge g 94 dX11_mixBoard_39 (by decide) hf (fun c39 hf => ?_) (fun c39 hf => ?_)
    · refine x_iconst g 0 dX11_mixBoard_42 (by decide) ?_
      refine x_istore (lv' := [(6, .int 0), (0, .ref (Ad 0)), (3, .long w3), (5, .int v5)]) g dX11_mixBoard_43 (by decide) rfl ?_
      exact x_sub [1, 2, 3, 0] rfl (l_X11_mixBoard_L45 hA xl g _ _ ho ih35 FU _ _ hf)
    · refine x_lload_n g 1 dX11_mixBoard_94 rfl rfl ?_
      cases hf
      exact x_lret g rfl ho dX11_mixBoard_95
set_option maxHeartbeats 4000000 in
set_option maxRecDepth 100000 in
theorem l_X11_mixBoard_L5 {E : EV} {l : Launch} {D : va_G} {cy : Nat → ClassId} {Ad : Nat → Nat} {out : St × Option Value} {o : Int64} (hA : AdOK 58 Ad) (xl : XL E l D (AdA 58 Ad)) (g : XG E (wX cy Ad) cy cX11_mixBoard RX11 7 4 (some .long) out) (σ : St) (ho : out = (σ, (some (.long o)))) : ∀ (n : Nat) (w3 : Int64) (v5 : Int32), f_X11_mixBoard_L5 σ n w3 v5 = some o → XJ E (wX cy Ad σ) 5 [(0, .ref (Ad 0)), (3, .long w3), (5, .int v5)] [] := by
  intro n
  induction n with
  | zero => intro _ _ hf; cases hf
  | succ n ih5 =>
    intro w3 v5 hf
    replace hf : f_X11_mixBoard_L5b σ (f_X11_mixBoard_L5 σ n) w3 v5 = some o := hf
    unfold f_X11_mixBoard_L5b at hf
    refine x_iload g 2 dX11_mixBoard_5 rfl ?_
    refine x_bipush g 7 dX11_mixBoard_7 (by decide) ?_
    refine x_icmp_gt g 32 dX11_mixBoard_9 (by decide) hf (fun c9 hf => ?_) (fun c9 hf => ?_)
    · refine x_lload_n g 1 dX11_mixBoard_12 rfl rfl ?_
      refine x_aload_n g 0 dX11_mixBoard_13 rfl rfl ?_
      refine x_get g fl_X11_19 wx_0 rfl dX11_mixBoard_14 ?_
      refine x_iload g 2 dX11_mixBoard_17 rfl ?_
      obtain ⟨r1, hgr1, hf⟩ := obind hf
      refine x_callV (r := (RX1, TX1, 6)) g xl [.int v5] [.long w3] [.int r1, .long w3] (c_X1_tell hA hgr1) mf_X1_tell im_X1_tell se_X1_tell ml_X11_95 rfl wx_6 (by decide) (by decide) rfl (Nat.le_of_ble_eq_true rfl) dX11_mixBoard_19 rfl rfl ?_
      obtain ⟨r2, hgr2, hf⟩ := obind hf
      refine x_callS g xl [.long w3, .int r1] [] [.long r2] (c_X11_mix hA hgr2) mf_X11_mix sm_X11_mix ml_X11_272 (by decide) (by decide) rfl (Nat.le_of_ble_eq_true rfl) dX11_mixBoard_22 rfl rfl ?_
      refine x_lstore_n (lv' := [(3, .long r2), (0, .ref (Ad 0)), (5, .int v5)]) g dX11_mixBoard_25 rfl (by decide) rfl ?_
      refine x_iinc g 2 (v5 + 1) (lv' := [(5, .int (v5 + 1)), (3, .long r2), (0, .ref (Ad 0))]) dX11_mixBoard_26 rfl (by rfl) (by decide) rfl ?_
      refine x_goto g 5 dX11_mixBoard_29 (by decide) ?_
      exact x_sub [2, 1, 0] rfl (ih5 _ _ hf)
    · refine x_iconst g 0 dX11_mixBoard_32 (by decide) ?_
      refine x_istore (lv' := [(5, .int 0), (0, .ref (Ad 0)), (3, .long w3)]) g dX11_mixBoard_33 (by decide) rfl ?_
      exact x_sub [1, 2, 0] rfl (l_X11_mixBoard_L35 hA xl g _ ho FU _ _ hf)
set_option maxHeartbeats 4000000 in
set_option maxRecDepth 100000 in
theorem c_X11_mixBoard {l : Launch} {D : va_G} {cy : Nat → ClassId} {Ad : Nat → Nat} (hA : AdOK 58 Ad) {σ : St} {p1 : Int64} {o : Int64} (hf : f_X11_mixBoard σ p1 = some o) : CT l (wX cy Ad) D cy (AdA 58 Ad) yX11_mixBoard cX11_mixBoard 7 (some .long) 4 [.ref (Ad 0), .long p1] σ (σ, (some (.long o))) := by
  refine CT.of mf_X11_mixBoard (wX_D hA) (Nat.le_of_ble_eq_true rfl) ?_
  intro E xl g
  have ho : ((σ, (some (.long o))) : St × Option Value) = (σ, (some (.long o))) := rfl
  unfold f_X11_mixBoard at hf
  show XJ E (wX cy Ad σ) 0 [(0, .ref (Ad 0)), (1, .long p1)] []
  refine x_lload_n g 1 dX11_mixBoard_0 rfl rfl ?_
  refine x_lstore_n (lv' := [(3, .long p1), (0, .ref (Ad 0)), (1, .long p1)]) g dX11_mixBoard_1 rfl (by decide) rfl ?_
  refine x_iconst g 0 dX11_mixBoard_2 (by decide) ?_
  refine x_istore (lv' := [(5, .int 0), (3, .long p1), (0, .ref (Ad 0)), (1, .long p1)]) g dX11_mixBoard_3 (by decide) rfl ?_
  exact x_sub [2, 1, 0] rfl (l_X11_mixBoard_L5 hA xl g _ ho FU _ _ hf)
/-! SlotChip.mixCircuit(JLSlotChip$Circuit;)J -/
def f_X11_mixCircuit_L77b (σ : St) (i3 : Nat) (K77 : Int64 → Int32 → Option Int64) (w4 : Int64) (v6 : Int32) : Option Int64 :=
  if v6 < (σ.1 2 i3 5) then
    ((f_X2_startAt σ i3 v6).bind fun r7 =>
    (f_X11_mix w4 r7).bind fun r8 =>
    K77 r8 (v6 + 1))
  else
    some w4
def f_X11_mixCircuit_L77 (σ : St) (i3 : Nat) : Nat → Int64 → Int32 → Option Int64
  | 0 => fun _ _ => none
  | n + 1 => f_X11_mixCircuit_L77b σ i3 (f_X11_mixCircuit_L77 σ i3 n)
def f_X11_mixCircuit_L46b (σ : St) (i3 : Nat) (K46 : Int64 → Int32 → Option Int64) (w4 : Int64) (v6 : Int32) : Option Int64 :=
  (f_X2_places σ i3).bind fun r4 =>
  if v6 < r4 then
    ((f_X2_linkAt σ i3 v6).bind fun r5 =>
    (f_X11_mix w4 r5).bind fun r6 =>
    K46 r6 (v6 + 1))
  else
    f_X11_mixCircuit_L77 σ i3 FU w4 0
def f_X11_mixCircuit_L46 (σ : St) (i3 : Nat) : Nat → Int64 → Int32 → Option Int64
  | 0 => fun _ _ => none
  | n + 1 => f_X11_mixCircuit_L46b σ i3 (f_X11_mixCircuit_L46 σ i3 n)
def f_X11_mixCircuit_L13b (σ : St) (i3 : Nat) (K13 : Int64 → Int32 → Option Int64) (w4 : Int64) (v6 : Int32) : Option Int64 :=
  if v6 ≤ 14 then
    ((f_X11_circuit σ (σ.1 2 i3 0) v6).bind fun r2 =>
    (f_X11_mix w4 r2).bind fun r3 =>
    K13 r3 (v6 + 1))
  else
    f_X11_mixCircuit_L46 σ i3 FU w4 0
def f_X11_mixCircuit_L13 (σ : St) (i3 : Nat) : Nat → Int64 → Int32 → Option Int64
  | 0 => fun _ _ => none
  | n + 1 => f_X11_mixCircuit_L13b σ i3 (f_X11_mixCircuit_L13 σ i3 n)
def f_X11_mixCircuit (σ : St) (p1 : Int64) (p2 : Nat) : Option Int64 :=
  (f_X11_mix p1 (σ.1 2 p2 0)).bind fun r1 =>
  f_X11_mixCircuit_L13 σ p2 FU r1 0
set_option maxHeartbeats 4000000 in
set_option maxRecDepth 100000 in
theorem l_X11_mixCircuit_L77 {E : EV} {l : Launch} {D : va_G} {cy : Nat → ClassId} {Ad : Nat → Nat} {out : St × Option Value} {o : Int64} (hA : AdOK 58 Ad) (xl : XL E l D (AdA 58 Ad)) (g : XG E (wX cy Ad) cy cX11_mixCircuit RX11 7 4 (some .long) out) (σ : St) (i3 : Nat) (ho : out = (σ, (some (.long o)))) (h_i3 : i3 < 8) : ∀ (n : Nat) (w4 : Int64) (v6 : Int32), f_X11_mixCircuit_L77 σ i3 n w4 v6 = some o → XJ E (wX cy Ad σ) 77 [(3, .ref (Ad (14 + 3 * i3))), (4, .long w4), (6, .int v6)] [] := by
  intro n
  induction n with
  | zero => intro _ _ hf; cases hf
  | succ n ih77 =>
    intro w4 v6 hf
    replace hf : f_X11_mixCircuit_L77b σ i3 (f_X11_mixCircuit_L77 σ i3 n) w4 v6 = some o := hf
    unfold f_X11_mixCircuit_L77b at hf
    refine x_iload g 2 dX11_mixCircuit_77 rfl ?_
    refine x_aload_n g 0 dX11_mixCircuit_79 rfl rfl ?_
    refine x_get g fl_X11_175 (wx_C h_i3) rfl dX11_mixCircuit_80 ?_
    refine x_icmp_ge g 105 dX11_mixCircuit_83 (by decide) hf (fun c83 hf => ?_) (fun c83 hf => ?_)
    · refine x_lload g 1 dX11_mixCircuit_86 rfl ?_
      refine x_aload_n g 0 dX11_mixCircuit_88 rfl rfl ?_
      refine x_iload g 2 dX11_mixCircuit_89 rfl ?_
      obtain ⟨r7, hgr7, hf⟩ := obind hf
      refine x_callV (r := (RX2, TX2, 18)) g xl [.int v6] [.long w4] [.int r7, .long w4] (c_X2_startAt hA h_i3 hgr7) mf_X2_startAt im_X2_startAt se_X2_startAt ml_X11_178 rfl (wx_C h_i3) (by decide) (by decide) rfl (Nat.le_of_ble_eq_true rfl) dX11_mixCircuit_91 rfl rfl ?_
      obtain ⟨r8, hgr8, hf⟩ := obind hf
      refine x_callS g xl [.long w4, .int r7] [] [.long r8] (c_X11_mix hA hgr8) mf_X11_mix sm_X11_mix ml_X11_272 (by decide) (by decide) rfl (Nat.le_of_ble_eq_true rfl) dX11_mixCircuit_94 rfl rfl ?_
      refine x_lstore (lv' := [(4, .long r8), (3, .ref (Ad (14 + 3 * i3))), (6, .int v6)]) g dX11_mixCircuit_97 (by decide) rfl ?_
      refine x_iinc g 2 (v6 + 1) (lv' := [(6, .int (v6 + 1)), (4, .long r8), (3, .ref (Ad (14 + 3 * i3)))]) dX11_mixCircuit_99 rfl (by rfl) (by decide) rfl ?_
      refine x_goto g 77 dX11_mixCircuit_102 (by decide) ?_
      exact x_sub [2, 1, 0] rfl (ih77 _ _ hf)
    · refine x_lload g 1 dX11_mixCircuit_105 rfl ?_
      cases hf
      exact x_lret g rfl ho dX11_mixCircuit_107
set_option maxHeartbeats 4000000 in
set_option maxRecDepth 100000 in
theorem l_X11_mixCircuit_L46 {E : EV} {l : Launch} {D : va_G} {cy : Nat → ClassId} {Ad : Nat → Nat} {out : St × Option Value} {o : Int64} (hA : AdOK 58 Ad) (xl : XL E l D (AdA 58 Ad)) (g : XG E (wX cy Ad) cy cX11_mixCircuit RX11 7 4 (some .long) out) (σ : St) (i3 : Nat) (ho : out = (σ, (some (.long o)))) (h_i3 : i3 < 8) : ∀ (n : Nat) (w4 : Int64) (v6 : Int32), f_X11_mixCircuit_L46 σ i3 n w4 v6 = some o → XJ E (wX cy Ad σ) 46 [(3, .ref (Ad (14 + 3 * i3))), (4, .long w4), (6, .int v6)] [] := by
  intro n
  induction n with
  | zero => intro _ _ hf; cases hf
  | succ n ih46 =>
    intro w4 v6 hf
    replace hf : f_X11_mixCircuit_L46b σ i3 (f_X11_mixCircuit_L46 σ i3 n) w4 v6 = some o := hf
    unfold f_X11_mixCircuit_L46b at hf
    refine x_iload g 2 dX11_mixCircuit_46 rfl ?_
    refine x_aload_n g 0 dX11_mixCircuit_48 rfl rfl ?_
    obtain ⟨r4, hgr4, hf⟩ := obind hf
    refine x_callV (r := (RX2, TX2, 18)) g xl [] [.int v6] [.int r4, .int v6] (c_X2_places hA h_i3 hgr4) mf_X2_places im_X2_places se_X2_places ml_X11_169 rfl (wx_C h_i3) (by decide) (by decide) rfl (Nat.le_of_ble_eq_true rfl) dX11_mixCircuit_49 rfl rfl ?_
    refine x_icmp_ge g 74 dX11_mixCircuit_52 (by decide) hf (fun c52 hf => ?_) (fun c52 hf => ?_)
    · refine x_lload g 1 dX11_mixCircuit_55 rfl ?_
      refine x_aload_n g 0 dX11_mixCircuit_57 rfl rfl ?_
      refine x_iload g 2 dX11_mixCircuit_58 rfl ?_
      obtain ⟨r5, hgr5, hf⟩ := obind hf
      refine x_callV (r := (RX2, TX2, 18)) g xl [.int v6] [.long w4] [.int r5, .long w4] (c_X2_linkAt hA h_i3 hgr5) mf_X2_linkAt im_X2_linkAt se_X2_linkAt ml_X11_172 rfl (wx_C h_i3) (by decide) (by decide) rfl (Nat.le_of_ble_eq_true rfl) dX11_mixCircuit_60 rfl rfl ?_
      obtain ⟨r6, hgr6, hf⟩ := obind hf
      refine x_callS g xl [.long w4, .int r5] [] [.long r6] (c_X11_mix hA hgr6) mf_X11_mix sm_X11_mix ml_X11_272 (by decide) (by decide) rfl (Nat.le_of_ble_eq_true rfl) dX11_mixCircuit_63 rfl rfl ?_
      refine x_lstore (lv' := [(4, .long r6), (3, .ref (Ad (14 + 3 * i3))), (6, .int v6)]) g dX11_mixCircuit_66 (by decide) rfl ?_
      refine x_iinc g 2 (v6 + 1) (lv' := [(6, .int (v6 + 1)), (4, .long r6), (3, .ref (Ad (14 + 3 * i3)))]) dX11_mixCircuit_68 rfl (by rfl) (by decide) rfl ?_
      refine x_goto g 46 dX11_mixCircuit_71 (by decide) ?_
      exact x_sub [2, 1, 0] rfl (ih46 _ _ hf)
    · refine x_iconst g 0 dX11_mixCircuit_74 (by decide) ?_
      refine x_istore (lv' := [(6, .int 0), (3, .ref (Ad (14 + 3 * i3))), (4, .long w4)]) g dX11_mixCircuit_75 (by decide) rfl ?_
      exact x_sub [1, 2, 0] rfl (l_X11_mixCircuit_L77 hA xl g _ _ ho h_i3 FU _ _ hf)
set_option maxHeartbeats 4000000 in
set_option maxRecDepth 100000 in
theorem l_X11_mixCircuit_L13 {E : EV} {l : Launch} {D : va_G} {cy : Nat → ClassId} {Ad : Nat → Nat} {out : St × Option Value} {o : Int64} (hA : AdOK 58 Ad) (xl : XL E l D (AdA 58 Ad)) (g : XG E (wX cy Ad) cy cX11_mixCircuit RX11 7 4 (some .long) out) (σ : St) (i3 : Nat) (ho : out = (σ, (some (.long o)))) (h_i3 : i3 < 8) : ∀ (n : Nat) (w4 : Int64) (v6 : Int32), f_X11_mixCircuit_L13 σ i3 n w4 v6 = some o → XJ E (wX cy Ad σ) 13 [(0, .ref (Ad 0)), (3, .ref (Ad (14 + 3 * i3))), (4, .long w4), (6, .int v6)] [] := by
  intro n
  induction n with
  | zero => intro _ _ hf; cases hf
  | succ n ih13 =>
    intro w4 v6 hf
    replace hf : f_X11_mixCircuit_L13b σ i3 (f_X11_mixCircuit_L13 σ i3 n) w4 v6 = some o := hf
    unfold f_X11_mixCircuit_L13b at hf
    refine x_iload g 3 dX11_mixCircuit_13 rfl ?_
    refine x_bipush g 14 dX11_mixCircuit_15 (by decide) ?_
    refine x_icmp_gt g 43 dX11_mixCircuit_17 (by decide) hf (fun c17 hf => ?_) (fun c17 hf => ?_)
    · refine x_lload g 2 dX11_mixCircuit_20 rfl ?_
      refine x_aload_n g 0 dX11_mixCircuit_22 rfl rfl ?_
      refine x_aload_n g 1 dX11_mixCircuit_23 rfl rfl ?_
      refine x_get g fl_X11_154 (wx_C h_i3) rfl dX11_mixCircuit_24 ?_
      refine x_iload g 3 dX11_mixCircuit_27 rfl ?_
      obtain ⟨r2, hgr2, hf⟩ := obind hf
      refine x_callV (r := (RX11, TX11, 7)) g xl [.int (σ.1 2 i3 0), .int v6] [.long w4] [.int r2, .long w4] (c_X11_circuit hA hgr2) mf_X11_circuit im_X11_circuit se_X11_circuit ml_X11_287 rfl wx_0 (by decide) (by decide) rfl (Nat.le_of_ble_eq_true rfl) dX11_mixCircuit_29 rfl rfl ?_
      obtain ⟨r3, hgr3, hf⟩ := obind hf
      refine x_callS g xl [.long w4, .int r2] [] [.long r3] (c_X11_mix hA hgr3) mf_X11_mix sm_X11_mix ml_X11_272 (by decide) (by decide) rfl (Nat.le_of_ble_eq_true rfl) dX11_mixCircuit_32 rfl rfl ?_
      refine x_lstore (lv' := [(4, .long r3), (0, .ref (Ad 0)), (3, .ref (Ad (14 + 3 * i3))), (6, .int v6)]) g dX11_mixCircuit_35 (by decide) rfl ?_
      refine x_iinc g 3 (v6 + 1) (lv' := [(6, .int (v6 + 1)), (4, .long r3), (0, .ref (Ad 0)), (3, .ref (Ad (14 + 3 * i3)))]) dX11_mixCircuit_37 rfl (by rfl) (by decide) rfl ?_
      refine x_goto g 13 dX11_mixCircuit_40 (by decide) ?_
      exact x_sub [2, 3, 1, 0] rfl (ih13 _ _ hf)
    · refine x_iconst g 0 dX11_mixCircuit_43 (by decide) ?_
      refine x_istore (lv' := [(6, .int 0), (0, .ref (Ad 0)), (3, .ref (Ad (14 + 3 * i3))), (4, .long w4)]) g dX11_mixCircuit_44 (by decide) rfl ?_
      exact x_sub [2, 3, 0] rfl (l_X11_mixCircuit_L46 hA xl g _ _ ho h_i3 FU _ _ hf)
set_option maxHeartbeats 4000000 in
set_option maxRecDepth 100000 in
theorem c_X11_mixCircuit {l : Launch} {D : va_G} {cy : Nat → ClassId} {Ad : Nat → Nat} (hA : AdOK 58 Ad) {σ : St} {p1 : Int64} {p2 : Nat} (h_p2 : p2 < 8) {o : Int64} (hf : f_X11_mixCircuit σ p1 p2 = some o) : CT l (wX cy Ad) D cy (AdA 58 Ad) yX11_mixCircuit cX11_mixCircuit 7 (some .long) 4 [.ref (Ad 0), .long p1, .ref (Ad (14 + 3 * p2))] σ (σ, (some (.long o))) := by
  refine CT.of mf_X11_mixCircuit (wX_D hA) (Nat.le_of_ble_eq_true rfl) ?_
  intro E xl g
  have ho : ((σ, (some (.long o))) : St × Option Value) = (σ, (some (.long o))) := rfl
  unfold f_X11_mixCircuit at hf
  show XJ E (wX cy Ad σ) 0 [(0, .ref (Ad 0)), (1, .long p1), (3, .ref (Ad (14 + 3 * p2)))] []
  refine x_lload_n g 1 dX11_mixCircuit_0 rfl rfl ?_
  refine x_aload_n g 2 dX11_mixCircuit_1 rfl rfl ?_
  refine x_get g fl_X11_154 (wx_C h_p2) rfl dX11_mixCircuit_2 ?_
  obtain ⟨r1, hgr1, hf⟩ := obind hf
  refine x_callS g xl [.long p1, .int (σ.1 2 p2 0)] [] [.long r1] (c_X11_mix hA hgr1) mf_X11_mix sm_X11_mix ml_X11_272 (by decide) (by decide) rfl (Nat.le_of_ble_eq_true rfl) dX11_mixCircuit_5 rfl rfl ?_
  refine x_lstore (lv' := [(4, .long r1), (0, .ref (Ad 0)), (1, .long p1), (3, .ref (Ad (14 + 3 * p2)))]) g dX11_mixCircuit_8 (by decide) rfl ?_
  refine x_iconst g 0 dX11_mixCircuit_10 (by decide) ?_
  refine x_istore (lv' := [(6, .int 0), (4, .long r1), (0, .ref (Ad 0)), (1, .long p1), (3, .ref (Ad (14 + 3 * p2)))]) g dX11_mixCircuit_11 (by decide) rfl ?_
  exact x_sub [2, 4, 1, 0] rfl (l_X11_mixCircuit_L13 hA xl g _ _ ho h_p2 FU _ _ hf)
/-! SlotChip.mixStrays(J)J -/
def f_X11_mixStrays_L20b (K5 : Int64 → Int32 → Option Int64) (σ : St) (v5 : Int32) (K20 : Int64 → Int32 → Option Int64) (w3 : Int64) (v6 : Int32) : Option Int64 :=
  if v6 ≤ 4 then
    ((f_X11_straying σ v5 v6).bind fun r1 =>
    (f_X11_mix w3 r1).bind fun r2 =>
    K20 r2 (v6 + 1))
  else
    K5 w3 (v5 + 1)
def f_X11_mixStrays_L20 (K5 : Int64 → Int32 → Option Int64) (σ : St) (v5 : Int32) : Nat → Int64 → Int32 → Option Int64
  | 0 => fun _ _ => none
  | n + 1 => f_X11_mixStrays_L20b K5 σ v5 (f_X11_mixStrays_L20 K5 σ v5 n)
def f_X11_mixStrays_L81b (σ : St) (K81 : Int64 → Int32 → Option Int64) (w3 : Int64) (v5 : Int32) : Option Int64 :=
  if v5 ≤ 2 then
    ((f_X11_arrived σ 0 v5).bind fun r5 =>
    (f_X11_mix w3 r5).bind fun r6 =>
    K81 r6 (v5 + 1))
  else
    some w3
def f_X11_mixStrays_L81 (σ : St) : Nat → Int64 → Int32 → Option Int64
  | 0 => fun _ _ => none
  | n + 1 => f_X11_mixStrays_L81b σ (f_X11_mixStrays_L81 σ n)
def f_X11_mixStrays_L54b (σ : St) (K54 : Int64 → Int32 → Option Int64) (w3 : Int64) (v5 : Int32) : Option Int64 :=
  if v5 ≤ 2 then
    ((f_X11_arrived σ 1 v5).bind fun r3 =>
    (f_X11_mix w3 r3).bind fun r4 =>
    K54 r4 (v5 + 1))
  else
    f_X11_mixStrays_L81 σ FU w3 0
def f_X11_mixStrays_L54 (σ : St) : Nat → Int64 → Int32 → Option Int64
  | 0 => fun _ _ => none
  | n + 1 => f_X11_mixStrays_L54b σ (f_X11_mixStrays_L54 σ n)
def f_X11_mixStrays_L5b (σ : St) (K5 : Int64 → Int32 → Option Int64) (w3 : Int64) (v5 : Int32) : Option Int64 :=
  if v5 < (σ.1 8 0 0) then
    f_X11_mixStrays_L20 K5 σ v5 FU w3 0
  else
    f_X11_mixStrays_L54 σ FU w3 0
def f_X11_mixStrays_L5 (σ : St) : Nat → Int64 → Int32 → Option Int64
  | 0 => fun _ _ => none
  | n + 1 => f_X11_mixStrays_L5b σ (f_X11_mixStrays_L5 σ n)
def f_X11_mixStrays (σ : St) (p1 : Int64) : Option Int64 :=
  f_X11_mixStrays_L5 σ FU p1 0
set_option maxHeartbeats 4000000 in
set_option maxRecDepth 100000 in
theorem l_X11_mixStrays_L20 {E : EV} {l : Launch} {D : va_G} {cy : Nat → ClassId} {Ad : Nat → Nat} {out : St × Option Value} {o : Int64} (hA : AdOK 58 Ad) (xl : XL E l D (AdA 58 Ad)) (g : XG E (wX cy Ad) cy cX11_mixStrays RX11 7 5 (some .long) out) {K5 : Int64 → Int32 → Option Int64} (σ : St) (v5 : Int32) (ho : out = (σ, (some (.long o)))) (ih5 : ∀ (w3 : Int64) (v5 : Int32), K5 w3 v5 = some o → XJ E (wX cy Ad σ) 5 [(0, .ref (Ad 0)), (3, .long w3), (5, .int v5)] []) : ∀ (n : Nat) (w3 : Int64) (v6 : Int32), f_X11_mixStrays_L20 K5 σ v5 n w3 v6 = some o → XJ E (wX cy Ad σ) 20 [(0, .ref (Ad 0)), (3, .long w3), (5, .int v5), (6, .int v6)] [] := by
  intro n
  induction n with
  | zero => intro _ _ hf; cases hf
  | succ n ih20 =>
    intro w3 v6 hf
    replace hf : f_X11_mixStrays_L20b K5 σ v5 (f_X11_mixStrays_L20 K5 σ v5 n) w3 v6 = some o := hf
    unfold f_X11_mixStrays_L20b at hf
    refine x_iload g 3 dX11_mixStrays_20 rfl ?_
    refine x_iconst g 4 dX11_mixStrays_22 (by decide) ?_
    refine x_icmp_gt g 45 dX11_mixStrays_23 (by decide) hf (fun c23 hf => ?_) (fun c23 hf => ?_)
    · refine x_lload_n g 1 dX11_mixStrays_26 rfl rfl ?_
      refine x_aload_n g 0 dX11_mixStrays_27 rfl rfl ?_
      refine x_iload g 2 dX11_mixStrays_28 rfl ?_
      refine x_iload g 3 dX11_mixStrays_30 rfl ?_
      obtain ⟨r1, hgr1, hf⟩ := obind hf
      refine x_callV (r := (RX11, TX11, 7)) g xl [.int v5, .int v6] [.long w3] [.int r1, .long w3] (c_X11_straying hA hgr1) mf_X11_straying im_X11_straying se_X11_straying ml_X11_290 rfl wx_0 (by decide) (by decide) rfl (Nat.le_of_ble_eq_true rfl) dX11_mixStrays_32 rfl rfl ?_
      obtain ⟨r2, hgr2, hf⟩ := obind hf
      refine x_callS g xl [.long w3, .int r1] [] [.long r2] (c_X11_mix hA hgr2) mf_X11_mix sm_X11_mix ml_X11_272 (by decide) (by decide) rfl (Nat.le_of_ble_eq_true rfl) dX11_mixStrays_35 rfl rfl ?_
      refine x_lstore_n (lv' := [(3, .long r2), (0, .ref (Ad 0)), (5, .int v5), (6, .int v6)]) g dX11_mixStrays_38 rfl (by decide) rfl ?_
      refine x_iinc g 3 (v6 + 1) (lv' := [(6, .int (v6 + 1)), (3, .long r2), (0, .ref (Ad 0)), (5, .int v5)]) dX11_mixStrays_39 rfl (by rfl) (by decide) rfl ?_
      refine x_goto g 20 dX11_mixStrays_42 (by decide) ?_
      exact x_sub [2, 1, 3, 0] rfl (ih20 _ _ hf)
    · refine x_iinc g 2 (v5 + 1) (lv' := [(5, .int (v5 + 1)), (0, .ref (Ad 0)), (3, .long w3), (6, .int v6)]) dX11_mixStrays_45 rfl (by rfl) (by decide) rfl ?_
      refine x_goto g 5 dX11_mixStrays_48 (by decide) ?_
      exact x_sub [1, 2, 0] rfl (ih5 _ _ hf)
set_option maxHeartbeats 4000000 in
set_option maxRecDepth 100000 in
theorem l_X11_mixStrays_L81 {E : EV} {l : Launch} {D : va_G} {cy : Nat → ClassId} {Ad : Nat → Nat} {out : St × Option Value} {o : Int64} (hA : AdOK 58 Ad) (xl : XL E l D (AdA 58 Ad)) (g : XG E (wX cy Ad) cy cX11_mixStrays RX11 7 5 (some .long) out) (σ : St) (ho : out = (σ, (some (.long o)))) : ∀ (n : Nat) (w3 : Int64) (v5 : Int32), f_X11_mixStrays_L81 σ n w3 v5 = some o → XJ E (wX cy Ad σ) 81 [(0, .ref (Ad 0)), (3, .long w3), (5, .int v5)] [] := by
  intro n
  induction n with
  | zero => intro _ _ hf; cases hf
  | succ n ih81 =>
    intro w3 v5 hf
    replace hf : f_X11_mixStrays_L81b σ (f_X11_mixStrays_L81 σ n) w3 v5 = some o := hf
    unfold f_X11_mixStrays_L81b at hf
    refine x_iload g 2 dX11_mixStrays_81 rfl ?_
    refine x_iconst g 2 dX11_mixStrays_83 (by decide) ?_
    refine x_icmp_gt g 105 dX11_mixStrays_84 (by decide) hf (fun c84 hf => ?_) (fun c84 hf => ?_)
    · refine x_lload_n g 1 dX11_mixStrays_87 rfl rfl ?_
      refine x_aload_n g 0 dX11_mixStrays_88 rfl rfl ?_
      refine x_iconst g 0 dX11_mixStrays_89 (by decide) ?_
      refine x_iload g 2 dX11_mixStrays_90 rfl ?_
      obtain ⟨r5, hgr5, hf⟩ := obind hf
      refine x_callV (r := (RX11, TX11, 7)) g xl [.int 0, .int v5] [.long w3] [.int r5, .long w3] (c_X11_arrived hA hgr5) mf_X11_arrived im_X11_arrived se_X11_arrived ml_X11_293 rfl wx_0 (by decide) (by decide) rfl (Nat.le_of_ble_eq_true rfl) dX11_mixStrays_92 rfl rfl ?_
      obtain ⟨r6, hgr6, hf⟩ := obind hf
      refine x_callS g xl [.long w3, .int r5] [] [.long r6] (c_X11_mix hA hgr6) mf_X11_mix sm_X11_mix ml_X11_272 (by decide) (by decide) rfl (Nat.le_of_ble_eq_true rfl) dX11_mixStrays_95 rfl rfl ?_
      refine x_lstore_n (lv' := [(3, .long r6), (0, .ref (Ad 0)), (5, .int v5)]) g dX11_mixStrays_98 rfl (by decide) rfl ?_
      refine x_iinc g 2 (v5 + 1) (lv' := [(5, .int (v5 + 1)), (3, .long r6), (0, .ref (Ad 0))]) dX11_mixStrays_99 rfl (by rfl) (by decide) rfl ?_
      refine x_goto g 81 dX11_mixStrays_102 (by decide) ?_
      exact x_sub [2, 1, 0] rfl (ih81 _ _ hf)
    · refine x_lload_n g 1 dX11_mixStrays_105 rfl rfl ?_
      cases hf
      exact x_lret g rfl ho dX11_mixStrays_106
set_option maxHeartbeats 4000000 in
set_option maxRecDepth 100000 in
theorem l_X11_mixStrays_L54 {E : EV} {l : Launch} {D : va_G} {cy : Nat → ClassId} {Ad : Nat → Nat} {out : St × Option Value} {o : Int64} (hA : AdOK 58 Ad) (xl : XL E l D (AdA 58 Ad)) (g : XG E (wX cy Ad) cy cX11_mixStrays RX11 7 5 (some .long) out) (σ : St) (ho : out = (σ, (some (.long o)))) : ∀ (n : Nat) (w3 : Int64) (v5 : Int32), f_X11_mixStrays_L54 σ n w3 v5 = some o → XJ E (wX cy Ad σ) 54 [(0, .ref (Ad 0)), (3, .long w3), (5, .int v5)] [] := by
  intro n
  induction n with
  | zero => intro _ _ hf; cases hf
  | succ n ih54 =>
    intro w3 v5 hf
    replace hf : f_X11_mixStrays_L54b σ (f_X11_mixStrays_L54 σ n) w3 v5 = some o := hf
    unfold f_X11_mixStrays_L54b at hf
    refine x_iload g 2 dX11_mixStrays_54 rfl ?_
    refine x_iconst g 2 dX11_mixStrays_56 (by decide) ?_
    refine x_icmp_gt g 78 dX11_mixStrays_57 (by decide) hf (fun c57 hf => ?_) (fun c57 hf => ?_)
    · refine x_lload_n g 1 dX11_mixStrays_60 rfl rfl ?_
      refine x_aload_n g 0 dX11_mixStrays_61 rfl rfl ?_
      refine x_iconst g 1 dX11_mixStrays_62 (by decide) ?_
      refine x_iload g 2 dX11_mixStrays_63 rfl ?_
      obtain ⟨r3, hgr3, hf⟩ := obind hf
      refine x_callV (r := (RX11, TX11, 7)) g xl [.int 1, .int v5] [.long w3] [.int r3, .long w3] (c_X11_arrived hA hgr3) mf_X11_arrived im_X11_arrived se_X11_arrived ml_X11_293 rfl wx_0 (by decide) (by decide) rfl (Nat.le_of_ble_eq_true rfl) dX11_mixStrays_65 rfl rfl ?_
      obtain ⟨r4, hgr4, hf⟩ := obind hf
      refine x_callS g xl [.long w3, .int r3] [] [.long r4] (c_X11_mix hA hgr4) mf_X11_mix sm_X11_mix ml_X11_272 (by decide) (by decide) rfl (Nat.le_of_ble_eq_true rfl) dX11_mixStrays_68 rfl rfl ?_
      refine x_lstore_n (lv' := [(3, .long r4), (0, .ref (Ad 0)), (5, .int v5)]) g dX11_mixStrays_71 rfl (by decide) rfl ?_
      refine x_iinc g 2 (v5 + 1) (lv' := [(5, .int (v5 + 1)), (3, .long r4), (0, .ref (Ad 0))]) dX11_mixStrays_72 rfl (by rfl) (by decide) rfl ?_
      refine x_goto g 54 dX11_mixStrays_75 (by decide) ?_
      exact x_sub [2, 1, 0] rfl (ih54 _ _ hf)
    · refine x_iconst g 0 dX11_mixStrays_78 (by decide) ?_
      refine x_istore (lv' := [(5, .int 0), (0, .ref (Ad 0)), (3, .long w3)]) g dX11_mixStrays_79 (by decide) rfl ?_
      exact x_sub [1, 2, 0] rfl (l_X11_mixStrays_L81 hA xl g _ ho FU _ _ hf)
set_option maxHeartbeats 4000000 in
set_option maxRecDepth 100000 in
theorem l_X11_mixStrays_L5 {E : EV} {l : Launch} {D : va_G} {cy : Nat → ClassId} {Ad : Nat → Nat} {out : St × Option Value} {o : Int64} (hA : AdOK 58 Ad) (xl : XL E l D (AdA 58 Ad)) (g : XG E (wX cy Ad) cy cX11_mixStrays RX11 7 5 (some .long) out) (σ : St) (ho : out = (σ, (some (.long o)))) : ∀ (n : Nat) (w3 : Int64) (v5 : Int32), f_X11_mixStrays_L5 σ n w3 v5 = some o → XJ E (wX cy Ad σ) 5 [(0, .ref (Ad 0)), (3, .long w3), (5, .int v5)] [] := by
  intro n
  induction n with
  | zero => intro _ _ hf; cases hf
  | succ n ih5 =>
    intro w3 v5 hf
    replace hf : f_X11_mixStrays_L5b σ (f_X11_mixStrays_L5 σ n) w3 v5 = some o := hf
    unfold f_X11_mixStrays_L5b at hf
    refine x_iload g 2 dX11_mixStrays_5 rfl ?_
    refine x_aload_n g 0 dX11_mixStrays_7 rfl rfl ?_
    refine x_get g fl_X11_42 wx_0 rfl dX11_mixStrays_8 ?_
    refine x_get g fl_X11_225 wx_41 rfl dX11_mixStrays_11 ?_
    refine x_icmp_ge g 51 dX11_mixStrays_14 (by decide) hf (fun c14 hf => ?_) (fun c14 hf => ?_)
    · refine x_iconst g 0 dX11_mixStrays_17 (by decide) ?_
      refine x_istore (lv' := [(6, .int 0), (0, .ref (Ad 0)), (3, .long w3), (5, .int v5)]) g dX11_mixStrays_18 (by decide) rfl ?_
      exact x_sub [1, 2, 3, 0] rfl (l_X11_mixStrays_L20 hA xl g _ _ ho ih5 FU _ _ hf)
    · refine x_iconst g 0 dX11_mixStrays_51 (by decide) ?_
      refine x_istore (lv' := [(5, .int 0), (0, .ref (Ad 0)), (3, .long w3)]) g dX11_mixStrays_52 (by decide) rfl ?_
      exact x_sub [1, 2, 0] rfl (l_X11_mixStrays_L54 hA xl g _ ho FU _ _ hf)
set_option maxHeartbeats 4000000 in
set_option maxRecDepth 100000 in
theorem c_X11_mixStrays {l : Launch} {D : va_G} {cy : Nat → ClassId} {Ad : Nat → Nat} (hA : AdOK 58 Ad) {σ : St} {p1 : Int64} {o : Int64} (hf : f_X11_mixStrays σ p1 = some o) : CT l (wX cy Ad) D cy (AdA 58 Ad) yX11_mixStrays cX11_mixStrays 7 (some .long) 5 [.ref (Ad 0), .long p1] σ (σ, (some (.long o))) := by
  refine CT.of mf_X11_mixStrays (wX_D hA) (Nat.le_of_ble_eq_true rfl) ?_
  intro E xl g
  have ho : ((σ, (some (.long o))) : St × Option Value) = (σ, (some (.long o))) := rfl
  unfold f_X11_mixStrays at hf
  show XJ E (wX cy Ad σ) 0 [(0, .ref (Ad 0)), (1, .long p1)] []
  refine x_lload_n g 1 dX11_mixStrays_0 rfl rfl ?_
  refine x_lstore_n (lv' := [(3, .long p1), (0, .ref (Ad 0)), (1, .long p1)]) g dX11_mixStrays_1 rfl (by decide) rfl ?_
  refine x_iconst g 0 dX11_mixStrays_2 (by decide) ?_
  refine x_istore (lv' := [(5, .int 0), (3, .long p1), (0, .ref (Ad 0)), (1, .long p1)]) g dX11_mixStrays_3 (by decide) rfl ?_
  exact x_sub [2, 1, 0] rfl (l_X11_mixStrays_L5 hA xl g _ ho FU _ _ hf)
/-! SlotChip.digest()J -/
def f_X11_digest_L123b (σ : St) (K123 : Int64 → Int32 → Option Int64) (w1 : Int64) (v3 : Int32) : Option Int64 :=
  if v3 ≤ 6 then
    ((f_X11_count σ v3).bind fun r12 =>
    (f_X11_mix w1 r12).bind fun r13 =>
    K123 r13 (v3 + 1))
  else
    some w1
def f_X11_digest_L123 (σ : St) : Nat → Int64 → Int32 → Option Int64
  | 0 => fun _ _ => none
  | n + 1 => f_X11_digest_L123b σ (f_X11_digest_L123 σ n)
def f_X11_digest_L91b (σ : St) (K91 : Int64 → Int32 → Option Int64) (w1 : Int64) (v3 : Int32) : Option Int64 :=
  if v3 < (σ.1 5 0 0) then
    ((f_X5_codeAt σ v3).bind fun r10 =>
    (f_X11_mix w1 r10).bind fun r11 =>
    K91 r11 (v3 + 1))
  else
    f_X11_digest_L123 σ FU w1 0
def f_X11_digest_L91 (σ : St) : Nat → Int64 → Int32 → Option Int64
  | 0 => fun _ _ => none
  | n + 1 => f_X11_digest_L91b σ (f_X11_digest_L91 σ n)
def f_X11_digest_L26b (σ : St) (K26 : Int64 → Int32 → Option Int64) (w1 : Int64) (v3 : Int32) : Option Int64 :=
  if v3 < 8 then
    ((f_X3_find σ v3).bind fun r2 =>
    onR 8 r2
      (K26 w1 (v3 + 1))
      (fun j3 =>
        (f_X11_mixCircuit σ w1 j3).bind fun r4 =>
        K26 r4 (v3 + 1)))
  else
    ((f_X11_mixStrays σ w1).bind fun r5 =>
    (f_X11_fastest σ).bind fun r6 =>
    (f_X11_mix r5 r6).bind fun r7 =>
    (f_X11_faster σ).bind fun r8 =>
    (f_X11_mix r7 r8).bind fun r9 =>
    f_X11_digest_L91 σ FU r9 0)
def f_X11_digest_L26 (σ : St) : Nat → Int64 → Int32 → Option Int64
  | 0 => fun _ _ => none
  | n + 1 => f_X11_digest_L26b σ (f_X11_digest_L26 σ n)
def f_X11_digest (σ : St) : Option Int64 :=
  (f_X1_isThere σ).bind fun r1 =>
  if r1 = 0 then
    f_X11_digest_L26 σ FU 1511 0
  else
    ((f_X11_mixBoard σ 1511).bind fun r14 =>
    f_X11_digest_L26 σ FU r14 0)
set_option maxHeartbeats 4000000 in
set_option maxRecDepth 100000 in
theorem l_X11_digest_L123 {E : EV} {l : Launch} {D : va_G} {cy : Nat → ClassId} {Ad : Nat → Nat} {out : St × Option Value} {o : Int64} (hA : AdOK 58 Ad) (xl : XL E l D (AdA 58 Ad)) (g : XG E (wX cy Ad) cy cX11_digest RX11 5 6 (some .long) out) (σ : St) (ho : out = (σ, (some (.long o)))) : ∀ (n : Nat) (w1 : Int64) (v3 : Int32), f_X11_digest_L123 σ n w1 v3 = some o → XJ E (wX cy Ad σ) 123 [(0, .ref (Ad 0)), (1, .long w1), (3, .int v3)] [] := by
  intro n
  induction n with
  | zero => intro _ _ hf; cases hf
  | succ n ih123 =>
    intro w1 v3 hf
    replace hf : f_X11_digest_L123b σ (f_X11_digest_L123 σ n) w1 v3 = some o := hf
    unfold f_X11_digest_L123b at hf
    refine x_iload_n g 2 dX11_digest_123 rfl rfl ?_
    refine x_bipush g 6 dX11_digest_124 (by decide) ?_
    refine x_icmp_gt g 145 dX11_digest_126 (by decide) hf (fun c126 hf => ?_) (fun c126 hf => ?_)
    · refine x_lload_n g 1 dX11_digest_129 rfl rfl ?_
      refine x_aload_n g 0 dX11_digest_130 rfl rfl ?_
      refine x_iload_n g 2 dX11_digest_131 rfl rfl ?_
      obtain ⟨r12, hgr12, hf⟩ := obind hf
      refine x_callV (r := (RX11, TX11, 7)) g xl [.int v3] [.long w1] [.int r12, .long w1] (c_X11_count hA hgr12) mf_X11_count im_X11_count se_X11_count ml_X11_282 rfl wx_0 (by decide) (by decide) rfl (Nat.le_of_ble_eq_true rfl) dX11_digest_132 rfl rfl ?_
      obtain ⟨r13, hgr13, hf⟩ := obind hf
      refine x_callS g xl [.long w1, .int r12] [] [.long r13] (c_X11_mix hA hgr13) mf_X11_mix sm_X11_mix ml_X11_272 (by decide) (by decide) rfl (Nat.le_of_ble_eq_true rfl) dX11_digest_135 rfl rfl ?_
      refine x_lstore_n (lv' := [(1, .long r13), (0, .ref (Ad 0)), (3, .int v3)]) g dX11_digest_138 rfl (by decide) rfl ?_
      refine x_iinc g 2 (v3 + 1) (lv' := [(3, .int (v3 + 1)), (1, .long r13), (0, .ref (Ad 0))]) dX11_digest_139 rfl (by rfl) (by decide) rfl ?_
      refine x_goto g 123 dX11_digest_142 (by decide) ?_
      exact x_sub [2, 1, 0] rfl (ih123 _ _ hf)
    · refine x_lload_n g 1 dX11_digest_145 rfl rfl ?_
      cases hf
      exact x_lret g rfl ho dX11_digest_146
set_option maxHeartbeats 4000000 in
set_option maxRecDepth 100000 in
theorem l_X11_digest_L91 {E : EV} {l : Launch} {D : va_G} {cy : Nat → ClassId} {Ad : Nat → Nat} {out : St × Option Value} {o : Int64} (hA : AdOK 58 Ad) (xl : XL E l D (AdA 58 Ad)) (g : XG E (wX cy Ad) cy cX11_digest RX11 5 6 (some .long) out) (σ : St) (ho : out = (σ, (some (.long o)))) : ∀ (n : Nat) (w1 : Int64) (v3 : Int32), f_X11_digest_L91 σ n w1 v3 = some o → XJ E (wX cy Ad σ) 91 [(0, .ref (Ad 0)), (1, .long w1), (3, .int v3)] [] := by
  intro n
  induction n with
  | zero => intro _ _ hf; cases hf
  | succ n ih91 =>
    intro w1 v3 hf
    replace hf : f_X11_digest_L91b σ (f_X11_digest_L91 σ n) w1 v3 = some o := hf
    unfold f_X11_digest_L91b at hf
    refine x_iload_n g 2 dX11_digest_91 rfl rfl ?_
    refine x_aload_n g 0 dX11_digest_92 rfl rfl ?_
    refine x_get g fl_X11_10 wx_0 rfl dX11_digest_93 ?_
    refine x_get g fl_X11_63 wx_1 rfl dX11_digest_96 ?_
    refine x_icmp_ge g 121 dX11_digest_99 (by decide) hf (fun c99 hf => ?_) (fun c99 hf => ?_)
    · refine x_lload_n g 1 dX11_digest_102 rfl rfl ?_
      refine x_aload_n g 0 dX11_digest_103 rfl rfl ?_
      refine x_get g fl_X11_10 wx_0 rfl dX11_digest_104 ?_
      refine x_iload_n g 2 dX11_digest_107 rfl rfl ?_
      obtain ⟨r10, hgr10, hf⟩ := obind hf
      refine x_callV (r := (RX5, TX5, 9)) g xl [.int v3] [.long w1] [.int r10, .long w1] (c_X5_codeAt hA hgr10) mf_X5_codeAt im_X5_codeAt se_X5_codeAt ml_X11_279 rfl wx_1 (by decide) (by decide) rfl (Nat.le_of_ble_eq_true rfl) dX11_digest_108 rfl rfl ?_
      obtain ⟨r11, hgr11, hf⟩ := obind hf
      refine x_callS g xl [.long w1, .int r10] [] [.long r11] (c_X11_mix hA hgr11) mf_X11_mix sm_X11_mix ml_X11_272 (by decide) (by decide) rfl (Nat.le_of_ble_eq_true rfl) dX11_digest_111 rfl rfl ?_
      refine x_lstore_n (lv' := [(1, .long r11), (0, .ref (Ad 0)), (3, .int v3)]) g dX11_digest_114 rfl (by decide) rfl ?_
      refine x_iinc g 2 (v3 + 1) (lv' := [(3, .int (v3 + 1)), (1, .long r11), (0, .ref (Ad 0))]) dX11_digest_115 rfl (by rfl) (by decide) rfl ?_
      refine x_goto g 91 dX11_digest_118 (by decide) ?_
      exact x_sub [2, 1, 0] rfl (ih91 _ _ hf)
    · refine x_iconst g 0 dX11_digest_121 (by decide) ?_
      refine x_istore_n (lv' := [(3, .int 0), (0, .ref (Ad 0)), (1, .long w1)]) g dX11_digest_122 rfl (by decide) rfl ?_
      exact x_sub [1, 2, 0] rfl (l_X11_digest_L123 hA xl g _ ho FU _ _ hf)
set_option maxHeartbeats 4000000 in
set_option maxRecDepth 100000 in
theorem l_X11_digest_L26 {E : EV} {l : Launch} {D : va_G} {cy : Nat → ClassId} {Ad : Nat → Nat} {out : St × Option Value} {o : Int64} (hA : AdOK 58 Ad) (xl : XL E l D (AdA 58 Ad)) (g : XG E (wX cy Ad) cy cX11_digest RX11 5 6 (some .long) out) (σ : St) (ho : out = (σ, (some (.long o)))) : ∀ (n : Nat) (w1 : Int64) (v3 : Int32), f_X11_digest_L26 σ n w1 v3 = some o → XJ E (wX cy Ad σ) 26 [(0, .ref (Ad 0)), (1, .long w1), (3, .int v3)] [] := by
  intro n
  induction n with
  | zero => intro _ _ hf; cases hf
  | succ n ih26 =>
    intro w1 v3 hf
    replace hf : f_X11_digest_L26b σ (f_X11_digest_L26 σ n) w1 v3 = some o := hf
    unfold f_X11_digest_L26b at hf
    refine x_iload_n g 2 dX11_digest_26 rfl rfl ?_
    refine x_bipush g 8 dX11_digest_27 (by decide) ?_
    refine x_icmp_ge g 65 dX11_digest_29 (by decide) hf (fun c29 hf => ?_) (fun c29 hf => ?_)
    · refine x_aload_n g 0 dX11_digest_32 rfl rfl ?_
      refine x_get g fl_X11_26 wx_0 rfl dX11_digest_33 ?_
      refine x_iload_n g 2 dX11_digest_36 rfl rfl ?_
      obtain ⟨r2, hgr2, hf⟩ := obind hf
      refine onR_sp hf (fun e hf => ?_) (fun j3 h_j3 e hf => ?_)
      · rw [e] at hgr2
        refine x_callV (r := (RX3, TX3, 1)) g xl [.int v3] [] [.null] (c_X3_find hA hgr2) mf_X3_find im_X3_find se_X3_find ml_X11_157 rfl wx_12 (by decide) (by decide) rfl (Nat.le_of_ble_eq_true rfl) dX11_digest_37 rfl rfl ?_
        refine x_astoreN (lv' := [(4, .null), (0, .ref (Ad 0)), (1, .long w1), (3, .int v3)]) g dX11_digest_40 (by decide) rfl ?_
        refine x_aloadN g 0 dX11_digest_42 rfl ?_
        refine x_ifnonnullN g dX11_digest_44 ?_
        refine x_lload_n g 2 dX11_digest_47 rfl rfl ?_
        refine x_goto g 58 dX11_digest_48 (by decide) ?_
        refine x_lstore_n (lv' := [(1, .long w1), (4, .null), (0, .ref (Ad 0)), (3, .int v3)]) g dX11_digest_58 rfl (by decide) rfl ?_
        refine x_iinc g 3 (v3 + 1) (lv' := [(3, .int (v3 + 1)), (1, .long w1), (4, .null), (0, .ref (Ad 0))]) dX11_digest_59 rfl (by rfl) (by decide) rfl ?_
        refine x_goto g 26 dX11_digest_62 (by decide) ?_
        exact x_sub [3, 1, 0] rfl (ih26 _ _ hf)
      · rw [e] at hgr2
        refine x_callV (r := (RX3, TX3, 1)) g xl [.int v3] [] [.ref (Ad (14 + 3 * j3))] (c_X3_find hA hgr2) mf_X3_find im_X3_find se_X3_find ml_X11_157 rfl wx_12 (by decide) (by decide) rfl (Nat.le_of_ble_eq_true rfl) dX11_digest_37 rfl rfl ?_
        refine x_astore (lv' := [(4, .ref (Ad (14 + 3 * j3))), (0, .ref (Ad 0)), (1, .long w1), (3, .int v3)]) g dX11_digest_40 (by decide) rfl ?_
        refine x_aload g 0 dX11_digest_42 rfl ?_
        refine x_ifnonnull g 51 dX11_digest_44 (by decide) ?_
        refine x_aload_n g 1 dX11_digest_51 rfl rfl ?_
        refine x_lload_n g 2 dX11_digest_52 rfl rfl ?_
        refine x_aload g 0 dX11_digest_53 rfl ?_
        obtain ⟨r4, hgr4, hf⟩ := obind hf
        refine x_callV (r := (RX11, TX11, 7)) g xl [.long w1, .ref (Ad (14 + 3 * j3))] [] [.long r4] (c_X11_mixCircuit hA h_j3 hgr4) mf_X11_mixCircuit im_X11_mixCircuit se_X11_mixCircuit ml_X11_262 rfl wx_0 (by decide) (by decide) rfl (Nat.le_of_ble_eq_true rfl) dX11_digest_55 rfl rfl ?_
        refine x_lstore_n (lv' := [(1, .long r4), (4, .ref (Ad (14 + 3 * j3))), (0, .ref (Ad 0)), (3, .int v3)]) g dX11_digest_58 rfl (by decide) rfl ?_
        refine x_iinc g 3 (v3 + 1) (lv' := [(3, .int (v3 + 1)), (1, .long r4), (4, .ref (Ad (14 + 3 * j3))), (0, .ref (Ad 0))]) dX11_digest_59 rfl (by rfl) (by decide) rfl ?_
        refine x_goto g 26 dX11_digest_62 (by decide) ?_
        exact x_sub [3, 1, 0] rfl (ih26 _ _ hf)
    · refine x_aload_n g 0 dX11_digest_65 rfl rfl ?_
      refine x_lload_n g 1 dX11_digest_66 rfl rfl ?_
      obtain ⟨r5, hgr5, hf⟩ := obind hf
      refine x_callV (r := (RX11, TX11, 7)) g xl [.long w1] [] [.long r5] (c_X11_mixStrays hA hgr5) mf_X11_mixStrays im_X11_mixStrays se_X11_mixStrays ml_X11_266 rfl wx_0 (by decide) (by decide) rfl (Nat.le_of_ble_eq_true rfl) dX11_digest_67 rfl rfl ?_
      refine x_lstore_n (lv' := [(1, .long r5), (0, .ref (Ad 0)), (3, .int v3)]) g dX11_digest_70 rfl (by decide) rfl ?_
      refine x_lload_n g 0 dX11_digest_71 rfl rfl ?_
      refine x_aload_n g 1 dX11_digest_72 rfl rfl ?_
      obtain ⟨r6, hgr6, hf⟩ := obind hf
      refine x_callV (r := (RX11, TX11, 7)) g xl [] [.long r5] [.int r6, .long r5] (c_X11_fastest hA hgr6) mf_X11_fastest im_X11_fastest se_X11_fastest ml_X11_269 rfl wx_0 (by decide) (by decide) rfl (Nat.le_of_ble_eq_true rfl) dX11_digest_73 rfl rfl ?_
      obtain ⟨r7, hgr7, hf⟩ := obind hf
      refine x_callS g xl [.long r5, .int r6] [] [.long r7] (c_X11_mix hA hgr7) mf_X11_mix sm_X11_mix ml_X11_272 (by decide) (by decide) rfl (Nat.le_of_ble_eq_true rfl) dX11_digest_76 rfl rfl ?_
      refine x_lstore_n (lv' := [(1, .long r7), (0, .ref (Ad 0)), (3, .int v3)]) g dX11_digest_79 rfl (by decide) rfl ?_
      refine x_lload_n g 0 dX11_digest_80 rfl rfl ?_
      refine x_aload_n g 1 dX11_digest_81 rfl rfl ?_
      obtain ⟨r8, hgr8, hf⟩ := obind hf
      refine x_callV (r := (RX11, TX11, 7)) g xl [] [.long r7] [.int r8, .long r7] (c_X11_faster hA hgr8) mf_X11_faster im_X11_faster se_X11_faster ml_X11_276 rfl wx_0 (by decide) (by decide) rfl (Nat.le_of_ble_eq_true rfl) dX11_digest_82 rfl rfl ?_
      obtain ⟨r9, hgr9, hf⟩ := obind hf
      refine x_callS g xl [.long r7, .int r8] [] [.long r9] (c_X11_mix hA hgr9) mf_X11_mix sm_X11_mix ml_X11_272 (by decide) (by decide) rfl (Nat.le_of_ble_eq_true rfl) dX11_digest_85 rfl rfl ?_
      refine x_lstore_n (lv' := [(1, .long r9), (0, .ref (Ad 0)), (3, .int v3)]) g dX11_digest_88 rfl (by decide) rfl ?_
      refine x_iconst g 0 dX11_digest_89 (by decide) ?_
      refine x_istore_n (lv' := [(3, .int 0), (1, .long r9), (0, .ref (Ad 0))]) g dX11_digest_90 rfl (by decide) rfl ?_
      exact x_sub [2, 1, 0] rfl (l_X11_digest_L91 hA xl g _ ho FU _ _ hf)
set_option maxHeartbeats 4000000 in
set_option maxRecDepth 100000 in
theorem c_X11_digest {l : Launch} {D : va_G} {cy : Nat → ClassId} {Ad : Nat → Nat} (hA : AdOK 58 Ad) {σ : St} {o : Int64} (hf : f_X11_digest σ = some o) : CT l (wX cy Ad) D cy (AdA 58 Ad) yX11_digest cX11_digest 5 (some .long) 6 [.ref (Ad 0)] σ (σ, (some (.long o))) := by
  refine CT.of mf_X11_digest (wX_D hA) (Nat.le_of_ble_eq_true rfl) ?_
  intro E xl g
  have ho : ((σ, (some (.long o))) : St × Option Value) = (σ, (some (.long o))) := rfl
  unfold f_X11_digest at hf
  show XJ E (wX cy Ad σ) 0 [(0, .ref (Ad 0))] []
  refine x_aload_n g 0 dX11_digest_0 rfl rfl ?_
  refine x_get g fl_X11_19 wx_0 rfl dX11_digest_1 ?_
  obtain ⟨r1, hgr1, hf⟩ := obind hf
  refine x_callV (r := (RX1, TX1, 6)) g xl [] [] [.int r1] (c_X1_isThere hA hgr1) mf_X1_isThere im_X1_isThere se_X1_isThere ml_X11_91 rfl wx_6 (by decide) (by decide) rfl (Nat.le_of_ble_eq_true rfl) dX11_digest_4 rfl rfl ?_
  refine x_if_eq g 20 dX11_digest_7 (by decide) hf (fun c7 hf => ?_) (fun c7 hf => ?_)
  · refine x_ldc2 g kl_X11_256 dX11_digest_20 ?_
    refine x_lstore_n (lv' := [(1, .long 1511), (0, .ref (Ad 0))]) g dX11_digest_23 rfl (by decide) rfl ?_
    refine x_iconst g 0 dX11_digest_24 (by decide) ?_
    refine x_istore_n (lv' := [(3, .int 0), (1, .long 1511), (0, .ref (Ad 0))]) g dX11_digest_25 rfl (by decide) rfl ?_
    exact x_sub [2, 1, 0] rfl (l_X11_digest_L26 hA xl g _ ho FU _ _ hf)
  · refine x_aload_n g 0 dX11_digest_10 rfl rfl ?_
    refine x_ldc2 g kl_X11_256 dX11_digest_11 ?_
    obtain ⟨r14, hgr14, hf⟩ := obind hf
    refine x_callV (r := (RX11, TX11, 7)) g xl [.long 1511] [] [.long r14] (c_X11_mixBoard hA hgr14) mf_X11_mixBoard im_X11_mixBoard se_X11_mixBoard ml_X11_258 rfl wx_0 (by decide) (by decide) rfl (Nat.le_of_ble_eq_true rfl) dX11_digest_14 rfl rfl ?_
    refine x_goto g 23 dX11_digest_17 (by decide) ?_
    refine x_lstore_n (lv' := [(1, .long r14), (0, .ref (Ad 0))]) g dX11_digest_23 rfl (by decide) rfl ?_
    refine x_iconst g 0 dX11_digest_24 (by decide) ?_
    refine x_istore_n (lv' := [(3, .int 0), (1, .long r14), (0, .ref (Ad 0))]) g dX11_digest_25 rfl (by decide) rfl ?_
    exact x_sub [2, 1, 0] rfl (l_X11_digest_L26 hA xl g _ ho FU _ _ hf)
