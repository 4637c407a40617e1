/-! SlotChipModel.within(III)Z -/
def f_X12_within (p1 : Int32) (p2 : Int32) (p3 : Int32) : Option Int32 :=
  if p2 ≤ p1 then
    (if p1 ≤ p3 then
      some 1
    else
      some 0)
  else
    some 0
set_option maxHeartbeats 4000000 in
set_option maxRecDepth 100000 in
theorem c_X12_within {l : Launch} {D : va_G} {cy : Nat → ClassId} {Ad : Nat → Nat} (hA : AdOK 37 Ad) {σ : St} {p1 : Int32} {p2 : Int32} {p3 : Int32} {o : Int32} (hf : f_X12_within p1 p2 p3 = some o) : CT l (wM cy Ad) D cy (AdA 37 Ad) yX12_within cX12_within 3 (some .boolean) 0 [.int p1, .int p2, .int p3] σ (σ, (some (.int o))) := by
  refine CT.of mf_X12_within (wM_D hA) (Nat.le_of_ble_eq_true rfl) ?_
  intro E xl g
  have ho : ((σ, (some (.int o))) : St × Option Value) = (σ, (some (.int o))) := rfl
  unfold f_X12_within at hf
  show XJ E (wM cy Ad σ) 0 [(0, .int p1), (1, .int p2), (2, .int p3)] []
  refine x_iload_n g 0 dX12_within_0 rfl rfl ?_
  refine x_iload_n g 1 dX12_within_1 rfl rfl ?_
  refine x_icmp_lt g 14 dX12_within_2 (by decide) hf (fun c2 hf => ?_) (fun c2 hf => ?_)
  · refine x_iload_n g 0 dX12_within_5 rfl rfl ?_
    refine x_iload_n g 2 dX12_within_6 rfl rfl ?_
    refine x_icmp_gt g 14 dX12_within_7 (by decide) hf (fun c7 hf => ?_) (fun c7 hf => ?_)
    · refine x_iconst g 1 dX12_within_10 (by decide) ?_
      refine x_goto g 15 dX12_within_11 (by decide) ?_
      cases hf
      exact x_zret g rfl (by decide) ho dX12_within_15
    · refine x_iconst g 0 dX12_within_14 (by decide) ?_
      cases hf
      exact x_zret g rfl (by decide) ho dX12_within_15
  · refine x_iconst g 0 dX12_within_14 (by decide) ?_
    cases hf
    exact x_zret g rfl (by decide) ho dX12_within_15
/-! SlotChipModel.letter(I)I -/
def f_X12_letter (σ : St) (p1 : Int32) : Option (St × Int32) :=
  (f_X12_within p1 32 126).bind fun r1 =>
  if r1 = 0 then
    some (σ, (-102))
  else
    (if (σ.1 0 0 7) = 30 then
      some (σ, (-104))
    else
      (chk (inb (σ.1 0 0 7) 30) (
        bnd (si σ 8 0 (Int32.toNatClampNeg (σ.1 0 0 7)) p1) fun σ2 =>
        bnd (si σ2 0 0 7 ((σ2.1 0 0 7) + 1)) fun σ3 =>
        some (σ3, (σ3.1 0 0 7)))))
set_option maxHeartbeats 4000000 in
set_option maxRecDepth 100000 in
theorem c_X12_letter {l : Launch} {D : va_G} {cy : Nat → ClassId} {Ad : Nat → Nat} (hA : AdOK 37 Ad) {σ : St} {p1 : Int32} {o : (St × Int32)} (hf : f_X12_letter σ p1 = some o) : CT l (wM cy Ad) D cy (AdA 37 Ad) yX12_letter cX12_letter 2 (some .int) 1 [.ref (Ad 0), .int p1] σ (o.1, (some (.int o.2))) := by
  refine CT.of mf_X12_letter (wM_D hA) (Nat.le_of_ble_eq_true rfl) ?_
  intro E xl g
  have ho : ((o.1, (some (.int o.2))) : St × Option Value) = (o.1, (some (.int o.2))) := rfl
  unfold f_X12_letter at hf
  show XJ E (wM cy Ad σ) 0 [(0, .ref (Ad 0)), (1, .int p1)] []
  refine x_iload_n g 1 dX12_letter_0 rfl rfl ?_
  refine x_bipush g 32 dX12_letter_1 (by decide) ?_
  refine x_bipush g 126 dX12_letter_3 (by decide) ?_
  obtain ⟨r1, hgr1, hf⟩ := obind hf
  refine x_callS g xl [.int p1, .int 32, .int 126] [] [.int r1] (c_X12_within hA hgr1) mf_X12_within sm_X12_within ml_X12_130 (by decide) (by decide) rfl (Nat.le_of_ble_eq_true rfl) dX12_letter_5 rfl rfl ?_
  refine x_if_ne g 14 dX12_letter_8 (by decide) hf (fun c8 hf => ?_) (fun c8 hf => ?_)
  · refine x_bipush g (-102) dX12_letter_11 (by decide) ?_
    cases hf
    exact x_iret g rfl ho dX12_letter_13
  · refine x_aload_n g 0 dX12_letter_14 rfl rfl ?_
    refine x_get g fl_X12_138 wm_0 rfl dX12_letter_15 ?_
    refine x_bipush g 30 dX12_letter_18 (by decide) ?_
    refine x_icmp_ne g 26 dX12_letter_20 (by decide) hf (fun c20 hf => ?_) (fun c20 hf => ?_)
    · refine x_bipush g (-104) dX12_letter_23 (by decide) ?_
      cases hf
      exact x_iret g rfl ho dX12_letter_25
    · refine x_aload_n g 0 dX12_letter_26 rfl rfl ?_
      refine x_get g fl_X12_17 wm_0 rfl dX12_letter_27 ?_
      refine x_aload_n g 0 dX12_letter_30 rfl rfl ?_
      refine x_get g fl_X12_138 wm_0 rfl dX12_letter_31 ?_
      refine x_iload_n g 1 dX12_letter_34 rfl rfl ?_
      refine x_iastB g wm_3 (sm_3 _ _) dX12_letter_35 hf (fun σ2 hf => ?_)
      refine x_aload_n g 0 dX12_letter_36 rfl rfl ?_
      refine x_dup g dX12_letter_37 rfl ?_
      refine x_get g fl_X12_138 wm_0 rfl dX12_letter_38 ?_
      refine x_iconst g 1 dX12_letter_41 (by decide) ?_
      refine x_iadd g dX12_letter_42 ?_
      refine x_putB g tyX12 fl_X12_138 tyX12_ok nmX12 wm_0 rfl rfl rfl (Nat.le_of_ble_eq_true rfl) (sm_0_7 _) dX12_letter_43 hf (fun σ3 hf => ?_)
      refine x_aload_n g 0 dX12_letter_46 rfl rfl ?_
      refine x_get g fl_X12_138 wm_0 rfl dX12_letter_47 ?_
      cases hf
      exact x_iret g rfl ho dX12_letter_50
/-! SlotChipModel.blank()I -/
def f_X12_blank (σ : St) : Option (St × Int32) :=
  bnd (si σ 0 0 7 0) fun σ1 =>
  some (σ1, (σ.1 0 0 7))
set_option maxHeartbeats 4000000 in
set_option maxRecDepth 100000 in
theorem c_X12_blank {l : Launch} {D : va_G} {cy : Nat → ClassId} {Ad : Nat → Nat} (hA : AdOK 37 Ad) {σ : St} {o : (St × Int32)} (hf : f_X12_blank σ = some o) : CT l (wM cy Ad) D cy (AdA 37 Ad) yX12_blank cX12_blank 2 (some .int) 0 [.ref (Ad 0)] σ (o.1, (some (.int o.2))) := by
  refine CT.of mf_X12_blank (wM_D hA) (Nat.le_of_ble_eq_true rfl) ?_
  intro E xl g
  have ho : ((o.1, (some (.int o.2))) : St × Option Value) = (o.1, (some (.int o.2))) := rfl
  unfold f_X12_blank at hf
  show XJ E (wM cy Ad σ) 0 [(0, .ref (Ad 0))] []
  refine x_aload_n g 0 dX12_blank_0 rfl rfl ?_
  refine x_get g fl_X12_138 wm_0 rfl dX12_blank_1 ?_
  refine x_istore_n (lv' := [(1, .int (σ.1 0 0 7)), (0, .ref (Ad 0))]) g dX12_blank_4 rfl (by decide) rfl ?_
  refine x_aload_n g 1 dX12_blank_5 rfl rfl ?_
  refine x_iconst g 0 dX12_blank_6 (by decide) ?_
  refine x_putB g tyX12 fl_X12_138 tyX12_ok nmX12 wm_0 rfl rfl rfl (Nat.le_of_ble_eq_true rfl) (sm_0_7 _) dX12_blank_7 hf (fun σ1 hf => ?_)
  refine x_iload_n g 0 dX12_blank_10 rfl rfl ?_
  cases hf
  exact x_iret g rfl ho dX12_blank_11
/-! SlotChipModel.goes(ZI)Z -/
def f_X12_goes (σ : St) (p1 : Int32) (p2 : Int32) : Option (St × Int32) :=
  if p1 = 0 then
    (bnd (si σ 0 0 39 (σ.1 0 0 39)) fun σ1 =>
    chk (isZ p1) (some (σ1, p1)))
  else
    (bnd (si σ 0 0 39 p2) fun σ2 =>
    chk (isZ p1) (some (σ2, p1)))
set_option maxHeartbeats 4000000 in
set_option maxRecDepth 100000 in
theorem c_X12_goes {l : Launch} {D : va_G} {cy : Nat → ClassId} {Ad : Nat → Nat} (hA : AdOK 37 Ad) {σ : St} {p1 : Int32} {p2 : Int32} {o : (St × Int32)} (hf : f_X12_goes σ p1 p2 = some o) : CT l (wM cy Ad) D cy (AdA 37 Ad) yX12_goes cX12_goes 3 (some .boolean) 0 [.ref (Ad 0), .int p1, .int p2] σ (o.1, (some (.int o.2))) := by
  refine CT.of mf_X12_goes (wM_D hA) (Nat.le_of_ble_eq_true rfl) ?_
  intro E xl g
  have ho : ((o.1, (some (.int o.2))) : St × Option Value) = (o.1, (some (.int o.2))) := rfl
  unfold f_X12_goes at hf
  show XJ E (wM cy Ad σ) 0 [(0, .ref (Ad 0)), (1, .int p1), (2, .int p2)] []
  refine x_aload_n g 0 dX12_goes_0 rfl rfl ?_
  refine x_iload_n g 1 dX12_goes_1 rfl rfl ?_
  refine x_if_eq g 9 dX12_goes_2 (by decide) hf (fun c2 hf => ?_) (fun c2 hf => ?_)
  · refine x_aload_n g 0 dX12_goes_9 rfl rfl ?_
    refine x_get g fl_X12_155 wm_0 rfl dX12_goes_10 ?_
    refine x_putB g tyX12 fl_X12_155 tyX12_ok nmX12 wm_0 rfl rfl rfl (Nat.le_of_ble_eq_true rfl) (sm_0_39 _) dX12_goes_13 hf (fun σ1 hf => ?_)
    refine x_iload_n g 1 dX12_goes_16 rfl rfl ?_
    have hb := isZ_and (chk_some hf).1
    replace hf := (chk_some hf).2
    cases hf
    exact x_zret g rfl hb ho dX12_goes_17
  · refine x_iload_n g 2 dX12_goes_5 rfl rfl ?_
    refine x_goto g 13 dX12_goes_6 (by decide) ?_
    refine x_putB g tyX12 fl_X12_155 tyX12_ok nmX12 wm_0 rfl rfl rfl (Nat.le_of_ble_eq_true rfl) (sm_0_39 _) dX12_goes_13 hf (fun σ2 hf => ?_)
    refine x_iload_n g 1 dX12_goes_16 rfl rfl ?_
    have hb := isZ_and (chk_some hf).1
    replace hf := (chk_some hf).2
    cases hf
    exact x_zret g rfl hb ho dX12_goes_17
/-! SlotChipModel.leadsTo(IIII)I -/
def f_X12_leadsTo (p1 : Int32) (p2 : Int32) (p3 : Int32) (p4 : Int32) : Option Int32 :=
  chk (¬ p3 = 0) (
    chk (¬ p3 = 0) (
      if p2 = 0 then
        some p1
      else
        (if p2 = 1 then
          some (-1)
        else
          (if p2 = 2 then
            (if 0 < (p1 / p3) then
              some (p1 - p3)
            else
              some (-1))
          else
            (if p2 = 3 then
              (if (remI p1 p3) < (p3 - 1) then
                some (p1 + 1)
              else
                some (-1))
            else
              (if p2 = 4 then
                (if (p1 / p3) < (p4 - 1) then
                  some (p1 + p3)
                else
                  some (-1))
              else
                (if p2 = 5 then
                  (if 0 < (remI p1 p3) then
                    some (p1 - 1)
                  else
                    some (-1))
                else
                  some (-1))))))))
set_option maxHeartbeats 4000000 in
set_option maxRecDepth 100000 in
theorem c_X12_leadsTo {l : Launch} {D : va_G} {cy : Nat → ClassId} {Ad : Nat → Nat} (hA : AdOK 37 Ad) {σ : St} {p1 : Int32} {p2 : Int32} {p3 : Int32} {p4 : Int32} {o : Int32} (hf : f_X12_leadsTo p1 p2 p3 p4 = some o) : CT l (wM cy Ad) D cy (AdA 37 Ad) yX12_leadsTo cX12_leadsTo 6 (some .int) 0 [.int p1, .int p2, .int p3, .int p4] σ (σ, (some (.int o))) := by
  refine CT.of mf_X12_leadsTo (wM_D hA) (Nat.le_of_ble_eq_true rfl) ?_
  intro E xl g
  have ho : ((σ, (some (.int o))) : St × Option Value) = (σ, (some (.int o))) := rfl
  unfold f_X12_leadsTo at hf
  show XJ E (wM cy Ad σ) 0 [(0, .int p1), (1, .int p2), (2, .int p3), (3, .int p4)] []
  refine x_iload_n g 0 dX12_leadsTo_0 rfl rfl ?_
  refine x_iload_n g 2 dX12_leadsTo_1 rfl rfl ?_
  have hz := (chk_some hf).1
  replace hf := (chk_some hf).2
  refine x_irem g dX12_leadsTo_2 hz ?_
  refine x_istore (lv' := [(4, .int (remI p1 p3)), (0, .int p1), (1, .int p2), (2, .int p3), (3, .int p4)]) g dX12_leadsTo_3 (by decide) rfl ?_
  refine x_iload_n g 1 dX12_leadsTo_5 rfl rfl ?_
  refine x_iload_n g 3 dX12_leadsTo_6 rfl rfl ?_
  have hz := (chk_some hf).1
  replace hf := (chk_some hf).2
  refine x_idiv g dX12_leadsTo_7 hz ?_
  refine x_istore (lv' := [(5, .int (p1 / p3)), (4, .int (remI p1 p3)), (0, .int p1), (1, .int p2), (2, .int p3), (3, .int p4)]) g dX12_leadsTo_8 (by decide) rfl ?_
  refine x_iload_n g 3 dX12_leadsTo_10 rfl rfl ?_
  refine sp hf (fun n_11_0 hf => ?_) (fun n_11_0 hf => ?_)
  · refine x_tin g 0 37 48 dX12_leadsTo_11 n_11_0 (by decide) ?_
    refine x_iload_n g 2 dX12_leadsTo_48 rfl rfl ?_
    cases hf
    exact x_iret g rfl ho dX12_leadsTo_49
  · refine sp hf (fun n_11_1 hf => ?_) (fun n_11_1 hf => ?_)
    · refine x_tin g 1 97 108 dX12_leadsTo_11 n_11_1 (by decide) ?_
      refine x_iconst g (-1) dX12_leadsTo_108 (by decide) ?_
      cases hf
      exact x_iret g rfl ho dX12_leadsTo_109
    · refine sp hf (fun n_11_2 hf => ?_) (fun n_11_2 hf => ?_)
      · refine x_tin g 2 39 50 dX12_leadsTo_11 n_11_2 (by decide) ?_
        refine x_iload g 0 dX12_leadsTo_50 rfl ?_
        refine x_if_le g 61 dX12_leadsTo_52 (by decide) hf (fun c52 hf => ?_) (fun c52 hf => ?_)
        · refine x_iload_n g 2 dX12_leadsTo_55 rfl rfl ?_
          refine x_iload_n g 4 dX12_leadsTo_56 rfl rfl ?_
          refine x_isub g dX12_leadsTo_57 ?_
          refine x_goto g 62 dX12_leadsTo_58 (by decide) ?_
          cases hf
          exact x_iret g rfl ho dX12_leadsTo_62
        · refine x_iconst g (-1) dX12_leadsTo_61 (by decide) ?_
          cases hf
          exact x_iret g rfl ho dX12_leadsTo_62
      · refine sp hf (fun n_11_3 hf => ?_) (fun n_11_3 hf => ?_)
        · refine x_tin g 3 52 63 dX12_leadsTo_11 n_11_3 (by decide) ?_
          refine x_iload g 1 dX12_leadsTo_63 rfl ?_
          refine x_iload_n g 4 dX12_leadsTo_65 rfl rfl ?_
          refine x_iconst g 1 dX12_leadsTo_66 (by decide) ?_
          refine x_isub g dX12_leadsTo_67 ?_
          refine x_icmp_ge g 77 dX12_leadsTo_68 (by decide) hf (fun c68 hf => ?_) (fun c68 hf => ?_)
          · refine x_iload_n g 2 dX12_leadsTo_71 rfl rfl ?_
            refine x_iconst g 1 dX12_leadsTo_72 (by decide) ?_
            refine x_iadd g dX12_leadsTo_73 ?_
            refine x_goto g 78 dX12_leadsTo_74 (by decide) ?_
            cases hf
            exact x_iret g rfl ho dX12_leadsTo_78
          · refine x_iconst g (-1) dX12_leadsTo_77 (by decide) ?_
            cases hf
            exact x_iret g rfl ho dX12_leadsTo_78
        · refine sp hf (fun n_11_4 hf => ?_) (fun n_11_4 hf => ?_)
          · refine x_tin g 4 68 79 dX12_leadsTo_11 n_11_4 (by decide) ?_
            refine x_iload g 0 dX12_leadsTo_79 rfl ?_
            refine x_iload_n g 5 dX12_leadsTo_81 rfl rfl ?_
            refine x_iconst g 1 dX12_leadsTo_82 (by decide) ?_
            refine x_isub g dX12_leadsTo_83 ?_
            refine x_icmp_ge g 93 dX12_leadsTo_84 (by decide) hf (fun c84 hf => ?_) (fun c84 hf => ?_)
            · refine x_iload_n g 2 dX12_leadsTo_87 rfl rfl ?_
              refine x_iload_n g 4 dX12_leadsTo_88 rfl rfl ?_
              refine x_iadd g dX12_leadsTo_89 ?_
              refine x_goto g 94 dX12_leadsTo_90 (by decide) ?_
              cases hf
              exact x_iret g rfl ho dX12_leadsTo_94
            · refine x_iconst g (-1) dX12_leadsTo_93 (by decide) ?_
              cases hf
              exact x_iret g rfl ho dX12_leadsTo_94
          · refine sp hf (fun n_11_5 hf => ?_) (fun n_11_5 hf => ?_)
            · refine x_tin g 5 84 95 dX12_leadsTo_11 n_11_5 (by decide) ?_
              refine x_iload g 1 dX12_leadsTo_95 rfl ?_
              refine x_if_le g 106 dX12_leadsTo_97 (by decide) hf (fun c97 hf => ?_) (fun c97 hf => ?_)
              · refine x_iload_n g 2 dX12_leadsTo_100 rfl rfl ?_
                refine x_iconst g 1 dX12_leadsTo_101 (by decide) ?_
                refine x_isub g dX12_leadsTo_102 ?_
                refine x_goto g 107 dX12_leadsTo_103 (by decide) ?_
                cases hf
                exact x_iret g rfl ho dX12_leadsTo_107
              · refine x_iconst g (-1) dX12_leadsTo_106 (by decide) ?_
                cases hf
                exact x_iret g rfl ho dX12_leadsTo_107
            · refine x_tout g 108 dX12_leadsTo_11 (by have e0 := tI n_11_0 (by decide : (0 : Int32).toInt = 0); have e1 := tI n_11_1 (by decide : (1 : Int32).toInt = 1); have e2 := tI n_11_2 (by decide : (2 : Int32).toInt = 2); have e3 := tI n_11_3 (by decide : (3 : Int32).toInt = 3); have e4 := tI n_11_4 (by decide : (4 : Int32).toInt = 4); have e5 := tI n_11_5 (by decide : (5 : Int32).toInt = 5); omega) (by decide) ?_
              refine x_iconst g (-1) dX12_leadsTo_108 (by decide) ?_
              cases hf
              exact x_iret g rfl ho dX12_leadsTo_109
/-! SlotChipModel.isLeft(II)Z -/
def f_X12_isLeft (σ : St) (p1 : Int32) (p2 : Int32) : Option Int32 :=
  (f_X12_leadsTo p1 p2 (σ.1 0 0 40) (σ.1 0 0 41)).bind fun r1 =>
  if r1 = (-1) then
    some 0
  else
    (chk (inb ((6 * p1) + p2) 54) (
      if (σ.1 44 0 (Int32.toNatClampNeg ((6 * p1) + p2))) = 0 then
        some 1
      else
        some 0))
set_option maxHeartbeats 4000000 in
set_option maxRecDepth 100000 in
theorem c_X12_isLeft {l : Launch} {D : va_G} {cy : Nat → ClassId} {Ad : Nat → Nat} (hA : AdOK 37 Ad) {σ : St} {p1 : Int32} {p2 : Int32} {o : Int32} (hf : f_X12_isLeft σ p1 p2 = some o) : CT l (wM cy Ad) D cy (AdA 37 Ad) yX12_isLeft cX12_isLeft 3 (some .boolean) 1 [.ref (Ad 0), .int p1, .int p2] σ (σ, (some (.int o))) := by
  refine CT.of mf_X12_isLeft (wM_D hA) (Nat.le_of_ble_eq_true rfl) ?_
  intro E xl g
  have ho : ((σ, (some (.int o))) : St × Option Value) = (σ, (some (.int o))) := rfl
  unfold f_X12_isLeft at hf
  show XJ E (wM cy Ad σ) 0 [(0, .ref (Ad 0)), (1, .int p1), (2, .int p2)] []
  refine x_iload_n g 1 dX12_isLeft_0 rfl rfl ?_
  refine x_iload_n g 2 dX12_isLeft_1 rfl rfl ?_
  refine x_aload_n g 0 dX12_isLeft_2 rfl rfl ?_
  refine x_get g fl_X12_141 wm_0 rfl dX12_isLeft_3 ?_
  refine x_aload_n g 0 dX12_isLeft_6 rfl rfl ?_
  refine x_get g fl_X12_144 wm_0 rfl dX12_isLeft_7 ?_
  obtain ⟨r1, hgr1, hf⟩ := obind hf
  refine x_callS g xl [.int p1, .int p2, .int (σ.1 0 0 40), .int (σ.1 0 0 41)] [] [.int r1] (c_X12_leadsTo hA hgr1) mf_X12_leadsTo sm_X12_leadsTo ml_X12_134 (by decide) (by decide) rfl (Nat.le_of_ble_eq_true rfl) dX12_isLeft_10 rfl rfl ?_
  refine x_iconst g (-1) dX12_isLeft_13 (by decide) ?_
  refine x_icmp_eq g 35 dX12_isLeft_14 (by decide) hf (fun c14 hf => ?_) (fun c14 hf => ?_)
  · refine x_iconst g 0 dX12_isLeft_35 (by decide) ?_
    cases hf
    exact x_zret g rfl (by decide) ho dX12_isLeft_36
  · refine x_aload_n g 0 dX12_isLeft_17 rfl rfl ?_
    refine x_get g fl_X12_104 wm_0 rfl dX12_isLeft_18 ?_
    refine x_bipush g 6 dX12_isLeft_21 (by decide) ?_
    refine x_iload_n g 1 dX12_isLeft_23 rfl rfl ?_
    refine x_imul g dX12_isLeft_24 ?_
    refine x_iload_n g 2 dX12_isLeft_25 rfl rfl ?_
    refine x_iadd g dX12_isLeft_26 ?_
    refine x_zald g wm_32 dX12_isLeft_27 hf (fun hf => ?_)
    refine x_if_ne g 35 dX12_isLeft_28 (by decide) hf (fun c28 hf => ?_) (fun c28 hf => ?_)
    · refine x_iconst g 1 dX12_isLeft_31 (by decide) ?_
      refine x_goto g 36 dX12_isLeft_32 (by decide) ?_
      cases hf
      exact x_zret g rfl (by decide) ho dX12_isLeft_36
    · refine x_iconst g 0 dX12_isLeft_35 (by decide) ?_
      cases hf
      exact x_zret g rfl (by decide) ho dX12_isLeft_36
/-! SlotChipModel.isRouterLeft(I)Z -/
def f_X12_isRouterLeft_L4b (σ : St) (v1 : Int32) (K4 : Int32 → Int32 → Option Int32) (v2 : Int32) (v3 : Int32) : Option Int32 :=
  if v3 < 6 then
    (if v2 = 0 then
      ((f_X12_isLeft σ v1 v3).bind fun r1 =>
      if r1 = 0 then
        K4 0 (v3 + 1)
      else
        K4 1 (v3 + 1))
    else
      K4 1 (v3 + 1))
  else
    chk (isZ v2) (some v2)
def f_X12_isRouterLeft_L4 (σ : St) (v1 : Int32) : Nat → Int32 → Int32 → Option Int32
  | 0 => fun _ _ => none
  | n + 1 => f_X12_isRouterLeft_L4b σ v1 (f_X12_isRouterLeft_L4 σ v1 n)
def f_X12_isRouterLeft (σ : St) (p1 : Int32) : Option Int32 :=
  f_X12_isRouterLeft_L4 σ p1 FU 0 2
set_option maxHeartbeats 4000000 in
set_option maxRecDepth 100000 in
theorem l_X12_isRouterLeft_L4 {E : EV} {l : Launch} {D : va_G} {cy : Nat → ClassId} {Ad : Nat → Nat} {out : St × Option Value} {o : Int32} (hA : AdOK 37 Ad) (xl : XL E l D (AdA 37 Ad)) (g : XG E (wM cy Ad) cy cX12_isRouterLeft RX12 4 2 (some .boolean) out) (σ : St) (v1 : Int32) (ho : out = (σ, (some (.int o)))) : ∀ (n : Nat) (v2 : Int32) (v3 : Int32), f_X12_isRouterLeft_L4 σ v1 n v2 v3 = some o → XJ E (wM cy Ad σ) 4 [(0, .ref (Ad 0)), (1, .int v1), (2, .int v2), (3, .int v3)] [] := by
  intro n
  induction n with
  | zero => intro _ _ hf; cases hf
  | succ n ih4 =>
    intro v2 v3 hf
    replace hf : f_X12_isRouterLeft_L4b σ v1 (f_X12_isRouterLeft_L4 σ v1 n) v2 v3 = some o := hf
    unfold f_X12_isRouterLeft_L4b at hf
    refine x_iload_n g 3 dX12_isRouterLeft_4 rfl rfl ?_
    refine x_bipush g 6 dX12_isRouterLeft_5 (by decide) ?_
    refine x_icmp_ge g 35 dX12_isRouterLeft_7 (by decide) hf (fun c7 hf => ?_) (fun c7 hf => ?_)
    · refine x_iload_n g 2 dX12_isRouterLeft_10 rfl rfl ?_
      refine x_if_ne g 23 dX12_isRouterLeft_11 (by decide) hf (fun c11 hf => ?_) (fun c11 hf => ?_)
      · refine x_aload_n g 0 dX12_isRouterLeft_14 rfl rfl ?_
        refine x_iload_n g 1 dX12_isRouterLeft_15 rfl rfl ?_
        refine x_iload_n g 3 dX12_isRouterLeft_16 rfl rfl ?_
        obtain ⟨r1, hgr1, hf⟩ := obind hf
        refine x_callV (r := (RX12, TX12, 53)) g xl [.int v1, .int v3] [] [.int r1] (c_X12_isLeft hA hgr1) mf_X12_isLeft im_X12_isLeft se_X12_isLeft ml_X12_147 rfl wm_0 (by decide) (by decide) rfl (Nat.le_of_ble_eq_true rfl) dX12_isRouterLeft_17 rfl rfl ?_
        refine x_if_eq g 27 dX12_isRouterLeft_20 (by decide) hf (fun c20 hf => ?_) (fun c20 hf => ?_)
        · refine x_iconst g 0 dX12_isRouterLeft_27 (by decide) ?_
          refine x_istore_n (lv' := [(2, .int 0), (0, .ref (Ad 0)), (1, .int v1), (3, .int v3)]) g dX12_isRouterLeft_28 rfl (by decide) rfl ?_
          refine x_iinc g 3 (v3 + 1) (lv' := [(3, .int (v3 + 1)), (2, .int 0), (0, .ref (Ad 0)), (1, .int v1)]) dX12_isRouterLeft_29 rfl (by rfl) (by decide) rfl ?_
          refine x_goto g 4 dX12_isRouterLeft_32 (by decide) ?_
          exact x_sub [2, 3, 1, 0] rfl (ih4 _ _ hf)
        · refine x_iconst g 1 dX12_isRouterLeft_23 (by decide) ?_
          refine x_goto g 28 dX12_isRouterLeft_24 (by decide) ?_
          refine x_istore_n (lv' := [(2, .int 1), (0, .ref (Ad 0)), (1, .int v1), (3, .int v3)]) g dX12_isRouterLeft_28 rfl (by decide) rfl ?_
          refine x_iinc g 3 (v3 + 1) (lv' := [(3, .int (v3 + 1)), (2, .int 1), (0, .ref (Ad 0)), (1, .int v1)]) dX12_isRouterLeft_29 rfl (by rfl) (by decide) rfl ?_
          refine x_goto g 4 dX12_isRouterLeft_32 (by decide) ?_
          exact x_sub [2, 3, 1, 0] rfl (ih4 _ _ hf)
      · refine x_iconst g 1 dX12_isRouterLeft_23 (by decide) ?_
        refine x_goto g 28 dX12_isRouterLeft_24 (by decide) ?_
        refine x_istore_n (lv' := [(2, .int 1), (0, .ref (Ad 0)), (1, .int v1), (3, .int v3)]) g dX12_isRouterLeft_28 rfl (by decide) rfl ?_
        refine x_iinc g 3 (v3 + 1) (lv' := [(3, .int (v3 + 1)), (2, .int 1), (0, .ref (Ad 0)), (1, .int v1)]) dX12_isRouterLeft_29 rfl (by rfl) (by decide) rfl ?_
        refine x_goto g 4 dX12_isRouterLeft_32 (by decide) ?_
        exact x_sub [2, 3, 1, 0] rfl (ih4 _ _ hf)
    · refine x_iload_n g 2 dX12_isRouterLeft_35 rfl rfl ?_
      have hb := isZ_and (chk_some hf).1
      replace hf := (chk_some hf).2
      cases hf
      exact x_zret g rfl hb ho dX12_isRouterLeft_36
set_option maxHeartbeats 4000000 in
set_option maxRecDepth 100000 in
theorem c_X12_isRouterLeft {l : Launch} {D : va_G} {cy : Nat → ClassId} {Ad : Nat → Nat} (hA : AdOK 37 Ad) {σ : St} {p1 : Int32} {o : Int32} (hf : f_X12_isRouterLeft σ p1 = some o) : CT l (wM cy Ad) D cy (AdA 37 Ad) yX12_isRouterLeft cX12_isRouterLeft 4 (some .boolean) 2 [.ref (Ad 0), .int p1] σ (σ, (some (.int o))) := by
  refine CT.of mf_X12_isRouterLeft (wM_D hA) (Nat.le_of_ble_eq_true rfl) ?_
  intro E xl g
  have ho : ((σ, (some (.int o))) : St × Option Value) = (σ, (some (.int o))) := rfl
  unfold f_X12_isRouterLeft at hf
  show XJ E (wM cy Ad σ) 0 [(0, .ref (Ad 0)), (1, .int p1)] []
  refine x_iconst g 0 dX12_isRouterLeft_0 (by decide) ?_
  refine x_istore_n (lv' := [(2, .int 0), (0, .ref (Ad 0)), (1, .int p1)]) g dX12_isRouterLeft_1 rfl (by decide) rfl ?_
  refine x_iconst g 2 dX12_isRouterLeft_2 (by decide) ?_
  refine x_istore_n (lv' := [(3, .int 2), (2, .int 0), (0, .ref (Ad 0)), (1, .int p1)]) g dX12_isRouterLeft_3 rfl (by decide) rfl ?_
  exact x_sub [2, 3, 1, 0] rfl (l_X12_isRouterLeft_L4 hA xl g _ _ ho FU _ _ hf)
/-! SlotChipModel.isAnyLeft()Z -/
def f_X12_isAnyLeft_L4b (σ : St) (K4 : Int32 → Int32 → Option Int32) (v1 : Int32) (v2 : Int32) : Option Int32 :=
  if v2 < ((σ.1 0 0 40) * (σ.1 0 0 41)) then
    (if v1 = 0 then
      ((f_X12_isRouterLeft σ v2).bind fun r1 =>
      if r1 = 0 then
        K4 0 (v2 + 1)
      else
        K4 1 (v2 + 1))
    else
      K4 1 (v2 + 1))
  else
    chk (isZ v1) (some v1)
def f_X12_isAnyLeft_L4 (σ : St) : Nat → Int32 → Int32 → Option Int32
  | 0 => fun _ _ => none
  | n + 1 => f_X12_isAnyLeft_L4b σ (f_X12_isAnyLeft_L4 σ n)
def f_X12_isAnyLeft (σ : St) : Option Int32 :=
  f_X12_isAnyLeft_L4 σ FU 0 0
set_option maxHeartbeats 4000000 in
set_option maxRecDepth 100000 in
theorem l_X12_isAnyLeft_L4 {E : EV} {l : Launch} {D : va_G} {cy : Nat → ClassId} {Ad : Nat → Nat} {out : St × Option Value} {o : Int32} (hA : AdOK 37 Ad) (xl : XL E l D (AdA 37 Ad)) (g : XG E (wM cy Ad) cy cX12_isAnyLeft RX12 3 3 (some .boolean) out) (σ : St) (ho : out = (σ, (some (.int o)))) : ∀ (n : Nat) (v1 : Int32) (v2 : Int32), f_X12_isAnyLeft_L4 σ n v1 v2 = some o → XJ E (wM cy Ad σ) 4 [(0, .ref (Ad 0)), (1, .int v1), (2, .int v2)] [] := by
  intro n
  induction n with
  | zero => intro _ _ hf; cases hf
  | succ n ih4 =>
    intro v1 v2 hf
    replace hf : f_X12_isAnyLeft_L4b σ (f_X12_isAnyLeft_L4 σ n) v1 v2 = some o := hf
    unfold f_X12_isAnyLeft_L4b at hf
    refine x_iload_n g 2 dX12_isAnyLeft_4 rfl rfl ?_
    refine x_aload_n g 0 dX12_isAnyLeft_5 rfl rfl ?_
    refine x_get g fl_X12_141 wm_0 rfl dX12_isAnyLeft_6 ?_
    refine x_aload_n g 0 dX12_isAnyLeft_9 rfl rfl ?_
    refine x_get g fl_X12_144 wm_0 rfl dX12_isAnyLeft_10 ?_
    refine x_imul g dX12_isAnyLeft_13 ?_
    refine x_icmp_ge g 41 dX12_isAnyLeft_14 (by decide) hf (fun c14 hf => ?_) (fun c14 hf => ?_)
    · refine x_iload_n g 1 dX12_isAnyLeft_17 rfl rfl ?_
      refine x_if_ne g 29 dX12_isAnyLeft_18 (by decide) hf (fun c18 hf => ?_) (fun c18 hf => ?_)
      · refine x_aload_n g 0 dX12_isAnyLeft_21 rfl rfl ?_
        refine x_iload_n g 2 dX12_isAnyLeft_22 rfl rfl ?_
        obtain ⟨r1, hgr1, hf⟩ := obind hf
        refine x_callV (r := (RX12, TX12, 53)) g xl [.int v2] [] [.int r1] (c_X12_isRouterLeft hA hgr1) mf_X12_isRouterLeft im_X12_isRouterLeft se_X12_isRouterLeft ml_X12_151 rfl wm_0 (by decide) (by decide) rfl (Nat.le_of_ble_eq_true rfl) dX12_isAnyLeft_23 rfl rfl ?_
        refine x_if_eq g 33 dX12_isAnyLeft_26 (by decide) hf (fun c26 hf => ?_) (fun c26 hf => ?_)
        · refine x_iconst g 0 dX12_isAnyLeft_33 (by decide) ?_
          refine x_istore_n (lv' := [(1, .int 0), (0, .ref (Ad 0)), (2, .int v2)]) g dX12_isAnyLeft_34 rfl (by decide) rfl ?_
          refine x_iinc g 2 (v2 + 1) (lv' := [(2, .int (v2 + 1)), (1, .int 0), (0, .ref (Ad 0))]) dX12_isAnyLeft_35 rfl (by rfl) (by decide) rfl ?_
          refine x_goto g 4 dX12_isAnyLeft_38 (by decide) ?_
          exact x_sub [2, 1, 0] rfl (ih4 _ _ hf)
        · refine x_iconst g 1 dX12_isAnyLeft_29 (by decide) ?_
          refine x_goto g 34 dX12_isAnyLeft_30 (by decide) ?_
          refine x_istore_n (lv' := [(1, .int 1), (0, .ref (Ad 0)), (2, .int v2)]) g dX12_isAnyLeft_34 rfl (by decide) rfl ?_
          refine x_iinc g 2 (v2 + 1) (lv' := [(2, .int (v2 + 1)), (1, .int 1), (0, .ref (Ad 0))]) dX12_isAnyLeft_35 rfl (by rfl) (by decide) rfl ?_
          refine x_goto g 4 dX12_isAnyLeft_38 (by decide) ?_
          exact x_sub [2, 1, 0] rfl (ih4 _ _ hf)
      · refine x_iconst g 1 dX12_isAnyLeft_29 (by decide) ?_
        refine x_goto g 34 dX12_isAnyLeft_30 (by decide) ?_
        refine x_istore_n (lv' := [(1, .int 1), (0, .ref (Ad 0)), (2, .int v2)]) g dX12_isAnyLeft_34 rfl (by decide) rfl ?_
        refine x_iinc g 2 (v2 + 1) (lv' := [(2, .int (v2 + 1)), (1, .int 1), (0, .ref (Ad 0))]) dX12_isAnyLeft_35 rfl (by rfl) (by decide) rfl ?_
        refine x_goto g 4 dX12_isAnyLeft_38 (by decide) ?_
        exact x_sub [2, 1, 0] rfl (ih4 _ _ hf)
    · refine x_iload_n g 1 dX12_isAnyLeft_41 rfl rfl ?_
      have hb := isZ_and (chk_some hf).1
      replace hf := (chk_some hf).2
      cases hf
      exact x_zret g rfl hb ho dX12_isAnyLeft_42
set_option maxHeartbeats 4000000 in
set_option maxRecDepth 100000 in
theorem c_X12_isAnyLeft {l : Launch} {D : va_G} {cy : Nat → ClassId} {Ad : Nat → Nat} (hA : AdOK 37 Ad) {σ : St} {o : Int32} (hf : f_X12_isAnyLeft σ = some o) : CT l (wM cy Ad) D cy (AdA 37 Ad) yX12_isAnyLeft cX12_isAnyLeft 3 (some .boolean) 3 [.ref (Ad 0)] σ (σ, (some (.int o))) := by
  refine CT.of mf_X12_isAnyLeft (wM_D hA) (Nat.le_of_ble_eq_true rfl) ?_
  intro E xl g
  have ho : ((σ, (some (.int o))) : St × Option Value) = (σ, (some (.int o))) := rfl
  unfold f_X12_isAnyLeft at hf
  show XJ E (wM cy Ad σ) 0 [(0, .ref (Ad 0))] []
  refine x_iconst g 0 dX12_isAnyLeft_0 (by decide) ?_
  refine x_istore_n (lv' := [(1, .int 0), (0, .ref (Ad 0))]) g dX12_isAnyLeft_1 rfl (by decide) rfl ?_
  refine x_iconst g 0 dX12_isAnyLeft_2 (by decide) ?_
  refine x_istore_n (lv' := [(2, .int 0), (1, .int 0), (0, .ref (Ad 0))]) g dX12_isAnyLeft_3 rfl (by decide) rfl ?_
  exact x_sub [2, 1, 0] rfl (l_X12_isAnyLeft_L4 hA xl g _ ho FU _ _ hf)
/-! SlotChipModel.portBy(I)I -/
def f_X12_portBy (p1 : Int32) : Option Int32 :=
  if p1 = 101 then
    some 3
  else
    (if p1 = 110 then
      some 2
    else
      (if p1 = 115 then
        some 4
      else
        (if p1 = 119 then
          some 5
        else
          some (-1))))
set_option maxHeartbeats 4000000 in
set_option maxRecDepth 100000 in
theorem c_X12_portBy {l : Launch} {D : va_G} {cy : Nat → ClassId} {Ad : Nat → Nat} (hA : AdOK 37 Ad) {σ : St} {p1 : Int32} {o : Int32} (hf : f_X12_portBy p1 = some o) : CT l (wM cy Ad) D cy (AdA 37 Ad) yX12_portBy cX12_portBy 1 (some .int) 0 [.int p1] σ (σ, (some (.int o))) := by
  refine CT.of mf_X12_portBy (wM_D hA) (Nat.le_of_ble_eq_true rfl) ?_
  intro E xl g
  have ho : ((σ, (some (.int o))) : St × Option Value) = (σ, (some (.int o))) := rfl
  unfold f_X12_portBy at hf
  show XJ E (wM cy Ad σ) 0 [(0, .int p1)] []
  refine x_iload_n g 0 dX12_portBy_0 rfl rfl ?_
  refine sp hf (fun n_1_101 hf => ?_) (fun n_1_101 hf => ?_)
  · refine x_lkin g 101 45 46 dX12_portBy_1 n_1_101 (by decide) (by decide) (by decide) ?_
    refine x_iconst g 3 dX12_portBy_46 (by decide) ?_
    cases hf
    exact x_iret g rfl ho dX12_portBy_47
  · refine sp hf (fun n_1_110 hf => ?_) (fun n_1_110 hf => ?_)
    · refine x_lkin g 110 43 44 dX12_portBy_1 n_1_110 (by decide) (by decide) (by decide) ?_
      refine x_iconst g 2 dX12_portBy_44 (by decide) ?_
      cases hf
      exact x_iret g rfl ho dX12_portBy_45
    · refine sp hf (fun n_1_115 hf => ?_) (fun n_1_115 hf => ?_)
      · refine x_lkin g 115 47 48 dX12_portBy_1 n_1_115 (by decide) (by decide) (by decide) ?_
        refine x_iconst g 4 dX12_portBy_48 (by decide) ?_
        cases hf
        exact x_iret g rfl ho dX12_portBy_49
      · refine sp hf (fun n_1_119 hf => ?_) (fun n_1_119 hf => ?_)
        · refine x_lkin g 119 49 50 dX12_portBy_1 n_1_119 (by decide) (by decide) (by decide) ?_
          refine x_iconst g 5 dX12_portBy_50 (by decide) ?_
          cases hf
          exact x_iret g rfl ho dX12_portBy_51
        · refine x_lkout g 52 dX12_portBy_1 (by decide) (by have e101 := tI n_1_101 (by decide : (101 : Int32).toInt = 101); have e110 := tI n_1_110 (by decide : (110 : Int32).toInt = 110); have e115 := tI n_1_115 (by decide : (115 : Int32).toInt = 115); have e119 := tI n_1_119 (by decide : (119 : Int32).toInt = 119); simp [Op.lookupswitch.offset, e101, Ne.symm e101, e110, Ne.symm e110, e115, Ne.symm e115, e119, Ne.symm e119]) (by decide) ?_
          refine x_iconst g (-1) dX12_portBy_52 (by decide) ?_
          cases hf
          exact x_iret g rfl ho dX12_portBy_53
/-! SlotChipModel.takesPort(I)Z -/
def f_X12_takesPort (σ : St) (p1 : Int32) : Option (St × Int32) :=
  (f_X12_portBy p1).bind fun r1 =>
  if r1 = (-1) then
    some (σ, 0)
  else
    ((f_X12_isLeft σ (σ.1 0 0 43) r1).bind fun r2 =>
    if r2 = 0 then
      some (σ, 0)
    else
      (chk (inb ((6 * (σ.1 0 0 43)) + r1) 54) (
        bnd (si σ 44 0 (Int32.toNatClampNeg ((6 * (σ.1 0 0 43)) + r1)) 1) fun σ3 =>
        bnd (si σ3 0 0 39 6) fun σ4 =>
        some (σ4, 1))))
set_option maxHeartbeats 4000000 in
set_option maxRecDepth 100000 in
theorem c_X12_takesPort {l : Launch} {D : va_G} {cy : Nat → ClassId} {Ad : Nat → Nat} (hA : AdOK 37 Ad) {σ : St} {p1 : Int32} {o : (St × Int32)} (hf : f_X12_takesPort σ p1 = some o) : CT l (wM cy Ad) D cy (AdA 37 Ad) yX12_takesPort cX12_takesPort 3 (some .boolean) 2 [.ref (Ad 0), .int p1] σ (o.1, (some (.int o.2))) := by
  refine CT.of mf_X12_takesPort (wM_D hA) (Nat.le_of_ble_eq_true rfl) ?_
  intro E xl g
  have ho : ((o.1, (some (.int o.2))) : St × Option Value) = (o.1, (some (.int o.2))) := rfl
  unfold f_X12_takesPort at hf
  show XJ E (wM cy Ad σ) 0 [(0, .ref (Ad 0)), (1, .int p1)] []
  refine x_iload_n g 1 dX12_takesPort_0 rfl rfl ?_
  obtain ⟨r1, hgr1, hf⟩ := obind hf
  refine x_callS g xl [.int p1] [] [.int r1] (c_X12_portBy hA hgr1) mf_X12_portBy sm_X12_portBy ml_X12_158 (by decide) (by decide) rfl (Nat.le_of_ble_eq_true rfl) dX12_takesPort_1 rfl rfl ?_
  refine x_istore_n (lv' := [(2, .int r1), (0, .ref (Ad 0)), (1, .int p1)]) g dX12_takesPort_4 rfl (by decide) rfl ?_
  refine x_iload_n g 0 dX12_takesPort_5 rfl rfl ?_
  refine x_iconst g (-1) dX12_takesPort_6 (by decide) ?_
  refine x_icmp_eq g 22 dX12_takesPort_7 (by decide) hf (fun c7 hf => ?_) (fun c7 hf => ?_)
  · refine x_iconst g 0 dX12_takesPort_22 (by decide) ?_
    cases hf
    exact x_zret g rfl (by decide) ho dX12_takesPort_23
  · refine x_aload_n g 1 dX12_takesPort_10 rfl rfl ?_
    refine x_aload_n g 1 dX12_takesPort_11 rfl rfl ?_
    refine x_get g fl_X12_162 wm_0 rfl dX12_takesPort_12 ?_
    refine x_iload_n g 0 dX12_takesPort_15 rfl rfl ?_
    obtain ⟨r2, hgr2, hf⟩ := obind hf
    refine x_callV (r := (RX12, TX12, 53)) g xl [.int (σ.1 0 0 43), .int r1] [] [.int r2] (c_X12_isLeft hA hgr2) mf_X12_isLeft im_X12_isLeft se_X12_isLeft ml_X12_147 rfl wm_0 (by decide) (by decide) rfl (Nat.le_of_ble_eq_true rfl) dX12_takesPort_16 rfl rfl ?_
    refine x_if_ne g 24 dX12_takesPort_19 (by decide) hf (fun c19 hf => ?_) (fun c19 hf => ?_)
    · refine x_iconst g 0 dX12_takesPort_22 (by decide) ?_
      cases hf
      exact x_zret g rfl (by decide) ho dX12_takesPort_23
    · refine x_aload_n g 1 dX12_takesPort_24 rfl rfl ?_
      refine x_get g fl_X12_104 wm_0 rfl dX12_takesPort_25 ?_
      refine x_bipush g 6 dX12_takesPort_28 (by decide) ?_
      refine x_aload_n g 1 dX12_takesPort_30 rfl rfl ?_
      refine x_get g fl_X12_162 wm_0 rfl dX12_takesPort_31 ?_
      refine x_imul g dX12_takesPort_34 ?_
      refine x_iload_n g 0 dX12_takesPort_35 rfl rfl ?_
      refine x_iadd g dX12_takesPort_36 ?_
      refine x_iconst g 1 dX12_takesPort_37 (by decide) ?_
      refine x_zastB g 1 rfl wm_32 (sm_32 _ _) dX12_takesPort_38 hf (fun σ3 hf => ?_)
      refine x_aload_n g 1 dX12_takesPort_39 rfl rfl ?_
      refine x_bipush g 6 dX12_takesPort_40 (by decide) ?_
      refine x_putB g tyX12 fl_X12_155 tyX12_ok nmX12 wm_0 rfl rfl rfl (Nat.le_of_ble_eq_true rfl) (sm_0_39 _) dX12_takesPort_42 hf (fun σ4 hf => ?_)
      refine x_iconst g 1 dX12_takesPort_45 (by decide) ?_
      cases hf
      exact x_zret g rfl (by decide) ho dX12_takesPort_46
/-! SlotChipModel.takes(I)Z -/
def f_X12_takes (σ : St) (p1 : Int32) : Option (St × Int32) :=
  if (σ.1 0 0 39) = 0 then
    (bnd (si σ 0 0 40 (p1 - 48)) fun σ1 =>
    (f_X12_within (p1 - 48) 2 3).bind fun r2 =>
    (f_X12_goes σ1 r2 1).bind fun (σ4, r3) =>
    chk (isZ r3) (some (σ4, r3)))
  else
    (if (σ.1 0 0 39) = 1 then
      (if p1 = 120 then
        ((f_X12_goes σ 1 2).bind fun (σ6, r5) =>
        chk (isZ r5) (some (σ6, r5)))
      else
        ((f_X12_goes σ 0 2).bind fun (σ8, r7) =>
        chk (isZ r7) (some (σ8, r7))))
    else
      (if (σ.1 0 0 39) = 2 then
        (bnd (si σ 0 0 41 (p1 - 48)) fun σ9 =>
        (f_X12_within (p1 - 48) 2 3).bind fun r10 =>
        (f_X12_goes σ9 r10 3).bind fun (σ12, r11) =>
        chk (isZ r11) (some (σ12, r11)))
      else
        (if (σ.1 0 0 39) = 3 then
          (if p1 = 58 then
            ((f_X12_goes σ 1 4).bind fun (σ14, r13) =>
            chk (isZ r13) (some (σ14, r13)))
          else
            ((f_X12_goes σ 0 4).bind fun (σ16, r15) =>
            chk (isZ r15) (some (σ16, r15))))
        else
          (if (σ.1 0 0 39) = 4 then
            (if (p1 - 48) = 1 then
              (bnd (si σ 0 0 42 10) fun σ17 =>
              if (p1 - 48) = 1 then
                ((f_X12_goes σ17 1 5).bind fun (σ19, r18) =>
                chk (isZ r18) (some (σ19, r18)))
              else
                ((f_X12_within (p1 - 48) 4 9).bind fun r20 =>
                (f_X12_goes σ17 r20 6).bind fun (σ22, r21) =>
                chk (isZ r21) (some (σ22, r21))))
            else
              (bnd (si σ 0 0 42 (p1 - 48)) fun σ23 =>
              if (p1 - 48) = 1 then
                ((f_X12_goes σ23 1 5).bind fun (σ25, r24) =>
                chk (isZ r24) (some (σ25, r24)))
              else
                ((f_X12_within (p1 - 48) 4 9).bind fun r26 =>
                (f_X12_goes σ23 r26 6).bind fun (σ28, r27) =>
                chk (isZ r27) (some (σ28, r27)))))
          else
            (if (σ.1 0 0 39) = 5 then
              (if (p1 - 48) = 0 then
                ((f_X12_goes σ 1 6).bind fun (σ30, r29) =>
                chk (isZ r29) (some (σ30, r29)))
              else
                ((f_X12_goes σ 0 6).bind fun (σ32, r31) =>
                chk (isZ r31) (some (σ32, r31))))
            else
              (if (σ.1 0 0 39) = 6 then
                (if p1 = 45 then
                  ((f_X12_isAnyLeft σ).bind fun r33 =>
                  if r33 = 0 then
                    ((f_X12_goes σ 0 7).bind fun (σ35, r34) =>
                    chk (isZ r34) (some (σ35, r34)))
                  else
                    ((f_X12_goes σ 1 7).bind fun (σ37, r36) =>
                    chk (isZ r36) (some (σ37, r36))))
                else
                  ((f_X12_goes σ 0 7).bind fun (σ39, r38) =>
                  chk (isZ r38) (some (σ39, r38))))
              else
                (if (σ.1 0 0 39) = 7 then
                  (bnd (si σ 0 0 43 (p1 - 48)) fun σ40 =>
                  (f_X12_within (p1 - 48) 0 (((σ40.1 0 0 40) * (σ40.1 0 0 41)) - 1)).bind fun r41 =>
                  if r41 = 0 then
                    ((f_X12_goes σ40 0 8).bind fun (σ43, r42) =>
                    chk (isZ r42) (some (σ43, r42)))
                  else
                    ((f_X12_isRouterLeft σ40 (p1 - 48)).bind fun r44 =>
                    if r44 = 0 then
                      ((f_X12_goes σ40 0 8).bind fun (σ46, r45) =>
                      chk (isZ r45) (some (σ46, r45)))
                    else
                      ((f_X12_goes σ40 1 8).bind fun (σ48, r47) =>
                      chk (isZ r47) (some (σ48, r47)))))
                else
                  ((f_X12_takesPort σ p1).bind fun (σ50, r49) =>
                  chk (isZ r49) (some (σ50, r49))))))))))
set_option maxHeartbeats 4000000 in
set_option maxRecDepth 100000 in
theorem c_X12_takes {l : Launch} {D : va_G} {cy : Nat → ClassId} {Ad : Nat → Nat} (hA : AdOK 37 Ad) {σ : St} {p1 : Int32} {o : (St × Int32)} (hf : f_X12_takes σ p1 = some o) : CT l (wM cy Ad) D cy (AdA 37 Ad) yX12_takes cX12_takes 3 (some .boolean) 4 [.ref (Ad 0), .int p1] σ (o.1, (some (.int o.2))) := by
  refine CT.of mf_X12_takes (wM_D hA) (Nat.le_of_ble_eq_true rfl) ?_
  intro E xl g
  have ho : ((o.1, (some (.int o.2))) : St × Option Value) = (o.1, (some (.int o.2))) := rfl
  unfold f_X12_takes at hf
  show XJ E (wM cy Ad σ) 0 [(0, .ref (Ad 0)), (1, .int p1)] []
  refine x_iload_n g 1 dX12_takes_0 rfl rfl ?_
  refine x_bipush g 48 dX12_takes_1 (by decide) ?_
  refine x_isub g dX12_takes_3 ?_
  refine x_istore_n (lv' := [(2, .int (p1 - 48)), (0, .ref (Ad 0)), (1, .int p1)]) g dX12_takes_4 rfl (by decide) rfl ?_
  refine x_aload_n g 1 dX12_takes_5 rfl rfl ?_
  refine x_get g fl_X12_155 wm_0 rfl dX12_takes_6 ?_
  refine sp hf (fun n_9_0 hf => ?_) (fun n_9_0 hf => ?_)
  · refine x_tin g 0 47 56 dX12_takes_9 n_9_0 (by decide) ?_
    refine x_aload_n g 1 dX12_takes_56 rfl rfl ?_
    refine x_iload_n g 0 dX12_takes_57 rfl rfl ?_
    refine x_putB g tyX12 fl_X12_141 tyX12_ok nmX12 wm_0 rfl rfl rfl (Nat.le_of_ble_eq_true rfl) (sm_0_40 _) dX12_takes_58 hf (fun σ1 hf => ?_)
    refine x_aload_n g 1 dX12_takes_61 rfl rfl ?_
    refine x_iload_n g 0 dX12_takes_62 rfl rfl ?_
    refine x_iconst g 2 dX12_takes_63 (by decide) ?_
    refine x_iconst g 3 dX12_takes_64 (by decide) ?_
    obtain ⟨r2, hgr2, hf⟩ := obind hf
    refine x_callS g xl [.int (p1 - 48), .int 2, .int 3] [.ref (Ad 0)] [.int r2, .ref (Ad 0)] (c_X12_within hA hgr2) mf_X12_within sm_X12_within ml_X12_130 (by decide) (by decide) rfl (Nat.le_of_ble_eq_true rfl) dX12_takes_65 rfl rfl ?_
    refine x_iconst g 1 dX12_takes_68 (by decide) ?_
    obtain ⟨⟨σ4, r3⟩, hgr3, hf⟩ := obind hf
    refine x_callV (r := (RX12, TX12, 53)) g xl [.int r2, .int 1] [] [.int r3] (c_X12_goes hA hgr3) mf_X12_goes im_X12_goes se_X12_goes ml_X12_165 rfl wm_0 (by decide) (by decide) rfl (Nat.le_of_ble_eq_true rfl) dX12_takes_69 rfl rfl ?_
    have hb := isZ_and (chk_some hf).1
    replace hf := (chk_some hf).2
    cases hf
    exact x_zret g rfl hb ho dX12_takes_72
  · refine sp hf (fun n_9_1 hf => ?_) (fun n_9_1 hf => ?_)
    · refine x_tin g 1 64 73 dX12_takes_9 n_9_1 (by decide) ?_
      refine x_aload_n g 1 dX12_takes_73 rfl rfl ?_
      refine x_iload_n g 2 dX12_takes_74 rfl rfl ?_
      refine x_bipush g 120 dX12_takes_75 (by decide) ?_
      refine x_icmp_ne g 84 dX12_takes_77 (by decide) hf (fun c77 hf => ?_) (fun c77 hf => ?_)
      · refine x_iconst g 1 dX12_takes_80 (by decide) ?_
        refine x_goto g 85 dX12_takes_81 (by decide) ?_
        refine x_iconst g 2 dX12_takes_85 (by decide) ?_
        obtain ⟨⟨σ6, r5⟩, hgr5, hf⟩ := obind hf
        refine x_callV (r := (RX12, TX12, 53)) g xl [.int 1, .int 2] [] [.int r5] (c_X12_goes hA hgr5) mf_X12_goes im_X12_goes se_X12_goes ml_X12_165 rfl wm_0 (by decide) (by decide) rfl (Nat.le_of_ble_eq_true rfl) dX12_takes_86 rfl rfl ?_
        have hb := isZ_and (chk_some hf).1
        replace hf := (chk_some hf).2
        cases hf
        exact x_zret g rfl hb ho dX12_takes_89
      · refine x_iconst g 0 dX12_takes_84 (by decide) ?_
        refine x_iconst g 2 dX12_takes_85 (by decide) ?_
        obtain ⟨⟨σ8, r7⟩, hgr7, hf⟩ := obind hf
        refine x_callV (r := (RX12, TX12, 53)) g xl [.int 0, .int 2] [] [.int r7] (c_X12_goes hA hgr7) mf_X12_goes im_X12_goes se_X12_goes ml_X12_165 rfl wm_0 (by decide) (by decide) rfl (Nat.le_of_ble_eq_true rfl) dX12_takes_86 rfl rfl ?_
        have hb := isZ_and (chk_some hf).1
        replace hf := (chk_some hf).2
        cases hf
        exact x_zret g rfl hb ho dX12_takes_89
    · refine sp hf (fun n_9_2 hf => ?_) (fun n_9_2 hf => ?_)
      · refine x_tin g 2 81 90 dX12_takes_9 n_9_2 (by decide) ?_
        refine x_aload_n g 1 dX12_takes_90 rfl rfl ?_
        refine x_iload_n g 0 dX12_takes_91 rfl rfl ?_
        refine x_putB g tyX12 fl_X12_144 tyX12_ok nmX12 wm_0 rfl rfl rfl (Nat.le_of_ble_eq_true rfl) (sm_0_41 _) dX12_takes_92 hf (fun σ9 hf => ?_)
        refine x_aload_n g 1 dX12_takes_95 rfl rfl ?_
        refine x_iload_n g 0 dX12_takes_96 rfl rfl ?_
        refine x_iconst g 2 dX12_takes_97 (by decide) ?_
        refine x_iconst g 3 dX12_takes_98 (by decide) ?_
        obtain ⟨r10, hgr10, hf⟩ := obind hf
        refine x_callS g xl [.int (p1 - 48), .int 2, .int 3] [.ref (Ad 0)] [.int r10, .ref (Ad 0)] (c_X12_within hA hgr10) mf_X12_within sm_X12_within ml_X12_130 (by decide) (by decide) rfl (Nat.le_of_ble_eq_true rfl) dX12_takes_99 rfl rfl ?_
        refine x_iconst g 3 dX12_takes_102 (by decide) ?_
        obtain ⟨⟨σ12, r11⟩, hgr11, hf⟩ := obind hf
        refine x_callV (r := (RX12, TX12, 53)) g xl [.int r10, .int 3] [] [.int r11] (c_X12_goes hA hgr11) mf_X12_goes im_X12_goes se_X12_goes ml_X12_165 rfl wm_0 (by decide) (by decide) rfl (Nat.le_of_ble_eq_true rfl) dX12_takes_103 rfl rfl ?_
        have hb := isZ_and (chk_some hf).1
        replace hf := (chk_some hf).2
        cases hf
        exact x_zret g rfl hb ho dX12_takes_106
      · refine sp hf (fun n_9_3 hf => ?_) (fun n_9_3 hf => ?_)
        · refine x_tin g 3 98 107 dX12_takes_9 n_9_3 (by decide) ?_
          refine x_aload_n g 1 dX12_takes_107 rfl rfl ?_
          refine x_iload_n g 2 dX12_takes_108 rfl rfl ?_
          refine x_bipush g 58 dX12_takes_109 (by decide) ?_
          refine x_icmp_ne g 118 dX12_takes_111 (by decide) hf (fun c111 hf => ?_) (fun c111 hf => ?_)
          · refine x_iconst g 1 dX12_takes_114 (by decide) ?_
            refine x_goto g 119 dX12_takes_115 (by decide) ?_
            refine x_iconst g 4 dX12_takes_119 (by decide) ?_
            obtain ⟨⟨σ14, r13⟩, hgr13, hf⟩ := obind hf
            refine x_callV (r := (RX12, TX12, 53)) g xl [.int 1, .int 4] [] [.int r13] (c_X12_goes hA hgr13) mf_X12_goes im_X12_goes se_X12_goes ml_X12_165 rfl wm_0 (by decide) (by decide) rfl (Nat.le_of_ble_eq_true rfl) dX12_takes_120 rfl rfl ?_
            have hb := isZ_and (chk_some hf).1
            replace hf := (chk_some hf).2
            cases hf
            exact x_zret g rfl hb ho dX12_takes_123
          · refine x_iconst g 0 dX12_takes_118 (by decide) ?_
            refine x_iconst g 4 dX12_takes_119 (by decide) ?_
            obtain ⟨⟨σ16, r15⟩, hgr15, hf⟩ := obind hf
            refine x_callV (r := (RX12, TX12, 53)) g xl [.int 0, .int 4] [] [.int r15] (c_X12_goes hA hgr15) mf_X12_goes im_X12_goes se_X12_goes ml_X12_165 rfl wm_0 (by decide) (by decide) rfl (Nat.le_of_ble_eq_true rfl) dX12_takes_120 rfl rfl ?_
            have hb := isZ_and (chk_some hf).1
            replace hf := (chk_some hf).2
            cases hf
            exact x_zret g rfl hb ho dX12_takes_123
        · refine sp hf (fun n_9_4 hf => ?_) (fun n_9_4 hf => ?_)
          · refine x_tin g 4 115 124 dX12_takes_9 n_9_4 (by decide) ?_
            refine x_aload_n g 1 dX12_takes_124 rfl rfl ?_
            refine x_iload_n g 0 dX12_takes_125 rfl rfl ?_
            refine x_iconst g 1 dX12_takes_126 (by decide) ?_
            refine x_icmp_ne g 135 dX12_takes_127 (by decide) hf (fun c127 hf => ?_) (fun c127 hf => ?_)
            · refine x_bipush g 10 dX12_takes_130 (by decide) ?_
              refine x_goto g 136 dX12_takes_132 (by decide) ?_
              refine x_putB g tyX12 fl_X12_169 tyX12_ok nmX12 wm_0 rfl rfl rfl (Nat.le_of_ble_eq_true rfl) (sm_0_42 _) dX12_takes_136 hf (fun σ17 hf => ?_)
              refine x_iload_n g 0 dX12_takes_139 rfl rfl ?_
              refine x_iconst g 1 dX12_takes_140 (by decide) ?_
              refine x_icmp_ne g 153 dX12_takes_141 (by decide) hf (fun c141 hf => ?_) (fun c141 hf => ?_)
              · refine x_aload_n g 1 dX12_takes_144 rfl rfl ?_
                refine x_iconst g 1 dX12_takes_145 (by decide) ?_
                refine x_iconst g 5 dX12_takes_146 (by decide) ?_
                obtain ⟨⟨σ19, r18⟩, hgr18, hf⟩ := obind hf
                refine x_callV (r := (RX12, TX12, 53)) g xl [.int 1, .int 5] [] [.int r18] (c_X12_goes hA hgr18) mf_X12_goes im_X12_goes se_X12_goes ml_X12_165 rfl wm_0 (by decide) (by decide) rfl (Nat.le_of_ble_eq_true rfl) dX12_takes_147 rfl rfl ?_
                refine x_goto g 166 dX12_takes_150 (by decide) ?_
                have hb := isZ_and (chk_some hf).1
                replace hf := (chk_some hf).2
                cases hf
                exact x_zret g rfl hb ho dX12_takes_166
              · refine x_aload_n g 1 dX12_takes_153 rfl rfl ?_
                refine x_iload_n g 0 dX12_takes_154 rfl rfl ?_
                refine x_iconst g 4 dX12_takes_155 (by decide) ?_
                refine x_bipush g 9 dX12_takes_156 (by decide) ?_
                obtain ⟨r20, hgr20, hf⟩ := obind hf
                refine x_callS g xl [.int (p1 - 48), .int 4, .int 9] [.ref (Ad 0)] [.int r20, .ref (Ad 0)] (c_X12_within hA hgr20) mf_X12_within sm_X12_within ml_X12_130 (by decide) (by decide) rfl (Nat.le_of_ble_eq_true rfl) dX12_takes_158 rfl rfl ?_
                refine x_bipush g 6 dX12_takes_161 (by decide) ?_
                obtain ⟨⟨σ22, r21⟩, hgr21, hf⟩ := obind hf
                refine x_callV (r := (RX12, TX12, 53)) g xl [.int r20, .int 6] [] [.int r21] (c_X12_goes hA hgr21) mf_X12_goes im_X12_goes se_X12_goes ml_X12_165 rfl wm_0 (by decide) (by decide) rfl (Nat.le_of_ble_eq_true rfl) dX12_takes_163 rfl rfl ?_
                have hb := isZ_and (chk_some hf).1
                replace hf := (chk_some hf).2
                cases hf
                exact x_zret g rfl hb ho dX12_takes_166
            · refine x_iload_n g 0 dX12_takes_135 rfl rfl ?_
              refine x_putB g tyX12 fl_X12_169 tyX12_ok nmX12 wm_0 rfl rfl rfl (Nat.le_of_ble_eq_true rfl) (sm_0_42 _) dX12_takes_136 hf (fun σ23 hf => ?_)
              refine x_iload_n g 0 dX12_takes_139 rfl rfl ?_
              refine x_iconst g 1 dX12_takes_140 (by decide) ?_
              refine x_icmp_ne g 153 dX12_takes_141 (by decide) hf (fun c141 hf => ?_) (fun c141 hf => ?_)
              · refine x_aload_n g 1 dX12_takes_144 rfl rfl ?_
                refine x_iconst g 1 dX12_takes_145 (by decide) ?_
                refine x_iconst g 5 dX12_takes_146 (by decide) ?_
                obtain ⟨⟨σ25, r24⟩, hgr24, hf⟩ := obind hf
                refine x_callV (r := (RX12, TX12, 53)) g xl [.int 1, .int 5] [] [.int r24] (c_X12_goes hA hgr24) mf_X12_goes im_X12_goes se_X12_goes ml_X12_165 rfl wm_0 (by decide) (by decide) rfl (Nat.le_of_ble_eq_true rfl) dX12_takes_147 rfl rfl ?_
                refine x_goto g 166 dX12_takes_150 (by decide) ?_
                have hb := isZ_and (chk_some hf).1
                replace hf := (chk_some hf).2
                cases hf
                exact x_zret g rfl hb ho dX12_takes_166
              · refine x_aload_n g 1 dX12_takes_153 rfl rfl ?_
                refine x_iload_n g 0 dX12_takes_154 rfl rfl ?_
                refine x_iconst g 4 dX12_takes_155 (by decide) ?_
                refine x_bipush g 9 dX12_takes_156 (by decide) ?_
                obtain ⟨r26, hgr26, hf⟩ := obind hf
                refine x_callS g xl [.int (p1 - 48), .int 4, .int 9] [.ref (Ad 0)] [.int r26, .ref (Ad 0)] (c_X12_within hA hgr26) mf_X12_within sm_X12_within ml_X12_130 (by decide) (by decide) rfl (Nat.le_of_ble_eq_true rfl) dX12_takes_158 rfl rfl ?_
                refine x_bipush g 6 dX12_takes_161 (by decide) ?_
                obtain ⟨⟨σ28, r27⟩, hgr27, hf⟩ := obind hf
                refine x_callV (r := (RX12, TX12, 53)) g xl [.int r26, .int 6] [] [.int r27] (c_X12_goes hA hgr27) mf_X12_goes im_X12_goes se_X12_goes ml_X12_165 rfl wm_0 (by decide) (by decide) rfl (Nat.le_of_ble_eq_true rfl) dX12_takes_163 rfl rfl ?_
                have hb := isZ_and (chk_some hf).1
                replace hf := (chk_some hf).2
                cases hf
                exact x_zret g rfl hb ho dX12_takes_166
          · refine sp hf (fun n_9_5 hf => ?_) (fun n_9_5 hf => ?_)
            · refine x_tin g 5 158 167 dX12_takes_9 n_9_5 (by decide) ?_
              refine x_aload_n g 1 dX12_takes_167 rfl rfl ?_
              refine x_iload_n g 0 dX12_takes_168 rfl rfl ?_
              refine x_if_ne g 176 dX12_takes_169 (by decide) hf (fun c169 hf => ?_) (fun c169 hf => ?_)
              · refine x_iconst g 1 dX12_takes_172 (by decide) ?_
                refine x_goto g 177 dX12_takes_173 (by decide) ?_
                refine x_bipush g 6 dX12_takes_177 (by decide) ?_
                obtain ⟨⟨σ30, r29⟩, hgr29, hf⟩ := obind hf
                refine x_callV (r := (RX12, TX12, 53)) g xl [.int 1, .int 6] [] [.int r29] (c_X12_goes hA hgr29) mf_X12_goes im_X12_goes se_X12_goes ml_X12_165 rfl wm_0 (by decide) (by decide) rfl (Nat.le_of_ble_eq_true rfl) dX12_takes_179 rfl rfl ?_
                have hb := isZ_and (chk_some hf).1
                replace hf := (chk_some hf).2
                cases hf
                exact x_zret g rfl hb ho dX12_takes_182
              · refine x_iconst g 0 dX12_takes_176 (by decide) ?_
                refine x_bipush g 6 dX12_takes_177 (by decide) ?_
                obtain ⟨⟨σ32, r31⟩, hgr31, hf⟩ := obind hf
                refine x_callV (r := (RX12, TX12, 53)) g xl [.int 0, .int 6] [] [.int r31] (c_X12_goes hA hgr31) mf_X12_goes im_X12_goes se_X12_goes ml_X12_165 rfl wm_0 (by decide) (by decide) rfl (Nat.le_of_ble_eq_true rfl) dX12_takes_179 rfl rfl ?_
                have hb := isZ_and (chk_some hf).1
                replace hf := (chk_some hf).2
                cases hf
                exact x_zret g rfl hb ho dX12_takes_182
            · refine sp hf (fun n_9_6 hf => ?_) (fun n_9_6 hf => ?_)
              · refine x_tin g 6 174 183 dX12_takes_9 n_9_6 (by decide) ?_
                refine x_aload_n g 1 dX12_takes_183 rfl rfl ?_
                refine x_iload_n g 2 dX12_takes_184 rfl rfl ?_
                refine x_bipush g 45 dX12_takes_185 (by decide) ?_
                refine x_icmp_ne g 201 dX12_takes_187 (by decide) hf (fun c187 hf => ?_) (fun c187 hf => ?_)
                · refine x_aload_n g 1 dX12_takes_190 rfl rfl ?_
                  obtain ⟨r33, hgr33, hf⟩ := obind hf
                  refine x_callV (r := (RX12, TX12, 53)) g xl [] [.ref (Ad 0)] [.int r33, .ref (Ad 0)] (c_X12_isAnyLeft hA hgr33) mf_X12_isAnyLeft im_X12_isAnyLeft se_X12_isAnyLeft ml_X12_172 rfl wm_0 (by decide) (by decide) rfl (Nat.le_of_ble_eq_true rfl) dX12_takes_191 rfl rfl ?_
                  refine x_if_eq g 201 dX12_takes_194 (by decide) hf (fun c194 hf => ?_) (fun c194 hf => ?_)
                  · refine x_iconst g 0 dX12_takes_201 (by decide) ?_
                    refine x_bipush g 7 dX12_takes_202 (by decide) ?_
                    obtain ⟨⟨σ35, r34⟩, hgr34, hf⟩ := obind hf
                    refine x_callV (r := (RX12, TX12, 53)) g xl [.int 0, .int 7] [] [.int r34] (c_X12_goes hA hgr34) mf_X12_goes im_X12_goes se_X12_goes ml_X12_165 rfl wm_0 (by decide) (by decide) rfl (Nat.le_of_ble_eq_true rfl) dX12_takes_204 rfl rfl ?_
                    have hb := isZ_and (chk_some hf).1
                    replace hf := (chk_some hf).2
                    cases hf
                    exact x_zret g rfl hb ho dX12_takes_207
                  · refine x_iconst g 1 dX12_takes_197 (by decide) ?_
                    refine x_goto g 202 dX12_takes_198 (by decide) ?_
                    refine x_bipush g 7 dX12_takes_202 (by decide) ?_
                    obtain ⟨⟨σ37, r36⟩, hgr36, hf⟩ := obind hf
                    refine x_callV (r := (RX12, TX12, 53)) g xl [.int 1, .int 7] [] [.int r36] (c_X12_goes hA hgr36) mf_X12_goes im_X12_goes se_X12_goes ml_X12_165 rfl wm_0 (by decide) (by decide) rfl (Nat.le_of_ble_eq_true rfl) dX12_takes_204 rfl rfl ?_
                    have hb := isZ_and (chk_some hf).1
                    replace hf := (chk_some hf).2
                    cases hf
                    exact x_zret g rfl hb ho dX12_takes_207
                · refine x_iconst g 0 dX12_takes_201 (by decide) ?_
                  refine x_bipush g 7 dX12_takes_202 (by decide) ?_
                  obtain ⟨⟨σ39, r38⟩, hgr38, hf⟩ := obind hf
                  refine x_callV (r := (RX12, TX12, 53)) g xl [.int 0, .int 7] [] [.int r38] (c_X12_goes hA hgr38) mf_X12_goes im_X12_goes se_X12_goes ml_X12_165 rfl wm_0 (by decide) (by decide) rfl (Nat.le_of_ble_eq_true rfl) dX12_takes_204 rfl rfl ?_
                  have hb := isZ_and (chk_some hf).1
                  replace hf := (chk_some hf).2
                  cases hf
                  exact x_zret g rfl hb ho dX12_takes_207
              · refine sp hf (fun n_9_7 hf => ?_) (fun n_9_7 hf => ?_)
                · refine x_tin g 7 199 208 dX12_takes_9 n_9_7 (by decide) ?_
                  refine x_aload_n g 1 dX12_takes_208 rfl rfl ?_
                  refine x_iload_n g 0 dX12_takes_209 rfl rfl ?_
                  refine x_putB g tyX12 fl_X12_162 tyX12_ok nmX12 wm_0 rfl rfl rfl (Nat.le_of_ble_eq_true rfl) (sm_0_43 _) dX12_takes_210 hf (fun σ40 hf => ?_)
                  refine x_aload_n g 1 dX12_takes_213 rfl rfl ?_
                  refine x_iload_n g 0 dX12_takes_214 rfl rfl ?_
                  refine x_iconst g 0 dX12_takes_215 (by decide) ?_
                  refine x_aload_n g 1 dX12_takes_216 rfl rfl ?_
                  refine x_get g fl_X12_141 wm_0 rfl dX12_takes_217 ?_
                  refine x_aload_n g 1 dX12_takes_220 rfl rfl ?_
                  refine x_get g fl_X12_144 wm_0 rfl dX12_takes_221 ?_
                  refine x_imul g dX12_takes_224 ?_
                  refine x_iconst g 1 dX12_takes_225 (by decide) ?_
                  refine x_isub g dX12_takes_226 ?_
                  obtain ⟨r41, hgr41, hf⟩ := obind hf
                  refine x_callS g xl [.int (p1 - 48), .int 0, .int (((σ40.1 0 0 40) * (σ40.1 0 0 41)) - 1)] [.ref (Ad 0)] [.int r41, .ref (Ad 0)] (c_X12_within hA hgr41) mf_X12_within sm_X12_within ml_X12_130 (by decide) (by decide) rfl (Nat.le_of_ble_eq_true rfl) dX12_takes_227 rfl rfl ?_
                  refine x_if_eq g 245 dX12_takes_230 (by decide) hf (fun c230 hf => ?_) (fun c230 hf => ?_)
                  · refine x_iconst g 0 dX12_takes_245 (by decide) ?_
                    refine x_bipush g 8 dX12_takes_246 (by decide) ?_
                    obtain ⟨⟨σ43, r42⟩, hgr42, hf⟩ := obind hf
                    refine x_callV (r := (RX12, TX12, 53)) g xl [.int 0, .int 8] [] [.int r42] (c_X12_goes hA hgr42) mf_X12_goes im_X12_goes se_X12_goes ml_X12_165 rfl wm_0 (by decide) (by decide) rfl (Nat.le_of_ble_eq_true rfl) dX12_takes_248 rfl rfl ?_
                    have hb := isZ_and (chk_some hf).1
                    replace hf := (chk_some hf).2
                    cases hf
                    exact x_zret g rfl hb ho dX12_takes_251
                  · refine x_aload_n g 1 dX12_takes_233 rfl rfl ?_
                    refine x_iload_n g 0 dX12_takes_234 rfl rfl ?_
                    obtain ⟨r44, hgr44, hf⟩ := obind hf
                    refine x_callV (r := (RX12, TX12, 53)) g xl [.int (p1 - 48)] [.ref (Ad 0)] [.int r44, .ref (Ad 0)] (c_X12_isRouterLeft hA hgr44) mf_X12_isRouterLeft im_X12_isRouterLeft se_X12_isRouterLeft ml_X12_151 rfl wm_0 (by decide) (by decide) rfl (Nat.le_of_ble_eq_true rfl) dX12_takes_235 rfl rfl ?_
                    refine x_if_eq g 245 dX12_takes_238 (by decide) hf (fun c238 hf => ?_) (fun c238 hf => ?_)
                    · refine x_iconst g 0 dX12_takes_245 (by decide) ?_
                      refine x_bipush g 8 dX12_takes_246 (by decide) ?_
                      obtain ⟨⟨σ46, r45⟩, hgr45, hf⟩ := obind hf
                      refine x_callV (r := (RX12, TX12, 53)) g xl [.int 0, .int 8] [] [.int r45] (c_X12_goes hA hgr45) mf_X12_goes im_X12_goes se_X12_goes ml_X12_165 rfl wm_0 (by decide) (by decide) rfl (Nat.le_of_ble_eq_true rfl) dX12_takes_248 rfl rfl ?_
                      have hb := isZ_and (chk_some hf).1
                      replace hf := (chk_some hf).2
                      cases hf
                      exact x_zret g rfl hb ho dX12_takes_251
                    · refine x_iconst g 1 dX12_takes_241 (by decide) ?_
                      refine x_goto g 246 dX12_takes_242 (by decide) ?_
                      refine x_bipush g 8 dX12_takes_246 (by decide) ?_
                      obtain ⟨⟨σ48, r47⟩, hgr47, hf⟩ := obind hf
                      refine x_callV (r := (RX12, TX12, 53)) g xl [.int 1, .int 8] [] [.int r47] (c_X12_goes hA hgr47) mf_X12_goes im_X12_goes se_X12_goes ml_X12_165 rfl wm_0 (by decide) (by decide) rfl (Nat.le_of_ble_eq_true rfl) dX12_takes_248 rfl rfl ?_
                      have hb := isZ_and (chk_some hf).1
                      replace hf := (chk_some hf).2
                      cases hf
                      exact x_zret g rfl hb ho dX12_takes_251
                · refine x_tout g 252 dX12_takes_9 (by have e0 := tI n_9_0 (by decide : (0 : Int32).toInt = 0); have e1 := tI n_9_1 (by decide : (1 : Int32).toInt = 1); have e2 := tI n_9_2 (by decide : (2 : Int32).toInt = 2); have e3 := tI n_9_3 (by decide : (3 : Int32).toInt = 3); have e4 := tI n_9_4 (by decide : (4 : Int32).toInt = 4); have e5 := tI n_9_5 (by decide : (5 : Int32).toInt = 5); have e6 := tI n_9_6 (by decide : (6 : Int32).toInt = 6); have e7 := tI n_9_7 (by decide : (7 : Int32).toInt = 7); omega) (by decide) ?_
                  refine x_aload_n g 1 dX12_takes_252 rfl rfl ?_
                  refine x_iload_n g 2 dX12_takes_253 rfl rfl ?_
                  obtain ⟨⟨σ50, r49⟩, hgr49, hf⟩ := obind hf
                  refine x_callV (r := (RX12, TX12, 53)) g xl [.int p1] [] [.int r49] (c_X12_takesPort hA hgr49) mf_X12_takesPort im_X12_takesPort se_X12_takesPort ml_X12_176 rfl wm_0 (by decide) (by decide) rfl (Nat.le_of_ble_eq_true rfl) dX12_takes_254 rfl rfl ?_
                  have hb := isZ_and (chk_some hf).1
                  replace hf := (chk_some hf).2
                  cases hf
                  exact x_zret g rfl hb ho dX12_takes_257
/-! SlotChipModel.read()I -/
def f_X12_read_L28b (K28 : St → Int32 → Option (St × Int32)) (σ : St) (v1 : Int32) : Option (St × Int32) :=
  if v1 < (σ.1 0 0 7) then
    (chk (inb v1 30) (
      (f_X12_takes σ (σ.1 8 0 (Int32.toNatClampNeg v1))).bind fun (σ4, r3) =>
      if r3 = 0 then
        some (σ4, v1)
      else
        K28 σ4 (v1 + 1)))
  else
    some (σ, v1)
def f_X12_read_L28 : Nat → St → Int32 → Option (St × Int32)
  | 0 => fun _ _ => none
  | n + 1 => f_X12_read_L28b (f_X12_read_L28 n)
def f_X12_read_L7b (K7 : St → Int32 → Option (St × Int32)) (σ : St) (v1 : Int32) : Option (St × Int32) :=
  if v1 < 54 then
    (chk (inb v1 54) (
      bnd (si σ 44 0 (Int32.toNatClampNeg v1) 0) fun σ2 =>
      K7 σ2 (v1 + 1)))
  else
    f_X12_read_L28 FU σ 0
def f_X12_read_L7 : Nat → St → Int32 → Option (St × Int32)
  | 0 => fun _ _ => none
  | n + 1 => f_X12_read_L7b (f_X12_read_L7 n)
def f_X12_read (σ : St) : Option (St × Int32) :=
  bnd (si σ 0 0 39 0) fun σ1 =>
  f_X12_read_L7 FU σ1 0
set_option maxHeartbeats 4000000 in
set_option maxRecDepth 100000 in
theorem l_X12_read_L28 {E : EV} {l : Launch} {D : va_G} {cy : Nat → ClassId} {Ad : Nat → Nat} {out : St × Option Value} {o : (St × Int32)} (hA : AdOK 37 Ad) (xl : XL E l D (AdA 37 Ad)) (g : XG E (wM cy Ad) cy cX12_read RX12 2 5 (some .int) out) (ho : out = (o.1, (some (.int o.2)))) : ∀ (n : Nat) (σ : St) (v1 : Int32), f_X12_read_L28 n σ v1 = some o → XJ E (wM cy Ad σ) 28 [(0, .ref (Ad 0)), (1, .int v1)] [] := by
  intro n
  induction n with
  | zero => intro _ _ hf; cases hf
  | succ n ih28 =>
    intro σ v1 hf
    replace hf : f_X12_read_L28b (f_X12_read_L28 n) σ v1 = some o := hf
    unfold f_X12_read_L28b at hf
    refine x_iload_n g 1 dX12_read_28 rfl rfl ?_
    refine x_aload_n g 0 dX12_read_29 rfl rfl ?_
    refine x_get g fl_X12_138 wm_0 rfl dX12_read_30 ?_
    refine x_icmp_ge g 55 dX12_read_33 (by decide) hf (fun c33 hf => ?_) (fun c33 hf => ?_)
    · refine x_aload_n g 0 dX12_read_36 rfl rfl ?_
      refine x_aload_n g 0 dX12_read_37 rfl rfl ?_
      refine x_get g fl_X12_17 wm_0 rfl dX12_read_38 ?_
      refine x_iload_n g 1 dX12_read_41 rfl rfl ?_
      refine x_iald g wm_3 dX12_read_42 hf (fun hf => ?_)
      obtain ⟨⟨σ4, r3⟩, hgr3, hf⟩ := obind hf
      refine x_callV (r := (RX12, TX12, 53)) g xl [.int (σ.1 8 0 (Int32.toNatClampNeg v1))] [] [.int r3] (c_X12_takes hA hgr3) mf_X12_takes im_X12_takes se_X12_takes ml_X12_179 rfl wm_0 (by decide) (by decide) rfl (Nat.le_of_ble_eq_true rfl) dX12_read_43 rfl rfl ?_
      refine x_if_eq g 55 dX12_read_46 (by decide) hf (fun c46 hf => ?_) (fun c46 hf => ?_)
      · refine x_iload_n g 1 dX12_read_55 rfl rfl ?_
        cases hf
        exact x_iret g rfl ho dX12_read_56
      · refine x_iinc g 1 (v1 + 1) (lv' := [(1, .int (v1 + 1)), (0, .ref (Ad 0))]) dX12_read_49 rfl (by rfl) (by decide) rfl ?_
        refine x_goto g 28 dX12_read_52 (by decide) ?_
        exact x_sub [1, 0] rfl (ih28 _ _ hf)
    · refine x_iload_n g 1 dX12_read_55 rfl rfl ?_
      cases hf
      exact x_iret g rfl ho dX12_read_56
set_option maxHeartbeats 4000000 in
set_option maxRecDepth 100000 in
theorem l_X12_read_L7 {E : EV} {l : Launch} {D : va_G} {cy : Nat → ClassId} {Ad : Nat → Nat} {out : St × Option Value} {o : (St × Int32)} (hA : AdOK 37 Ad) (xl : XL E l D (AdA 37 Ad)) (g : XG E (wM cy Ad) cy cX12_read RX12 2 5 (some .int) out) (ho : out = (o.1, (some (.int o.2)))) : ∀ (n : Nat) (σ : St) (v1 : Int32), f_X12_read_L7 n σ v1 = some o → XJ E (wM cy Ad σ) 7 [(0, .ref (Ad 0)), (1, .int v1)] [] := by
  intro n
  induction n with
  | zero => intro _ _ hf; cases hf
  | succ n ih7 =>
    intro σ v1 hf
    replace hf : f_X12_read_L7b (f_X12_read_L7 n) σ v1 = some o := hf
    unfold f_X12_read_L7b at hf
    refine x_iload_n g 1 dX12_read_7 rfl rfl ?_
    refine x_bipush g 54 dX12_read_8 (by decide) ?_
    refine x_icmp_ge g 26 dX12_read_10 (by decide) hf (fun c10 hf => ?_) (fun c10 hf => ?_)
    · refine x_aload_n g 0 dX12_read_13 rfl rfl ?_
      refine x_get g fl_X12_104 wm_0 rfl dX12_read_14 ?_
      refine x_iload_n g 1 dX12_read_17 rfl rfl ?_
      refine x_iconst g 0 dX12_read_18 (by decide) ?_
      refine x_zastB g 0 rfl wm_32 (sm_32 _ _) dX12_read_19 hf (fun σ2 hf => ?_)
      refine x_iinc g 1 (v1 + 1) (lv' := [(1, .int (v1 + 1)), (0, .ref (Ad 0))]) dX12_read_20 rfl (by rfl) (by decide) rfl ?_
      refine x_goto g 7 dX12_read_23 (by decide) ?_
      exact x_sub [1, 0] rfl (ih7 _ _ hf)
    · refine x_iconst g 0 dX12_read_26 (by decide) ?_
      refine x_istore_n (lv' := [(1, .int 0), (0, .ref (Ad 0))]) g dX12_read_27 rfl (by decide) rfl ?_
      exact x_sub [1, 0] rfl (l_X12_read_L28 hA xl g ho FU _ _ hf)
set_option maxHeartbeats 4000000 in
set_option maxRecDepth 100000 in
theorem c_X12_read {l : Launch} {D : va_G} {cy : Nat → ClassId} {Ad : Nat → Nat} (hA : AdOK 37 Ad) {σ : St} {o : (St × Int32)} (hf : f_X12_read σ = some o) : CT l (wM cy Ad) D cy (AdA 37 Ad) yX12_read cX12_read 2 (some .int) 5 [.ref (Ad 0)] σ (o.1, (some (.int o.2))) := by
  refine CT.of mf_X12_read (wM_D hA) (Nat.le_of_ble_eq_true rfl) ?_
  intro E xl g
  have ho : ((o.1, (some (.int o.2))) : St × Option Value) = (o.1, (some (.int o.2))) := rfl
  unfold f_X12_read at hf
  show XJ E (wM cy Ad σ) 0 [(0, .ref (Ad 0))] []
  refine x_aload_n g 0 dX12_read_0 rfl rfl ?_
  refine x_iconst g 0 dX12_read_1 (by decide) ?_
  refine x_putB g tyX12 fl_X12_155 tyX12_ok nmX12 wm_0 rfl rfl rfl (Nat.le_of_ble_eq_true rfl) (sm_0_39 _) dX12_read_2 hf (fun σ1 hf => ?_)
  refine x_iconst g 0 dX12_read_5 (by decide) ?_
  refine x_istore_n (lv' := [(1, .int 0), (0, .ref (Ad 0))]) g dX12_read_6 rfl (by decide) rfl ?_
  exact x_sub [1, 0] rfl (l_X12_read_L7 hA xl g ho FU _ _ hf)
/-! SlotChipModel.fault()I -/
def f_X12_fault (σ : St) : Option (St × Int32) :=
  (f_X12_read σ).bind fun (σ2, r1) =>
  some (σ2, r1)
set_option maxHeartbeats 4000000 in
set_option maxRecDepth 100000 in
theorem c_X12_fault {l : Launch} {D : va_G} {cy : Nat → ClassId} {Ad : Nat → Nat} (hA : AdOK 37 Ad) {σ : St} {o : (St × Int32)} (hf : f_X12_fault σ = some o) : CT l (wM cy Ad) D cy (AdA 37 Ad) yX12_fault cX12_fault 1 (some .int) 6 [.ref (Ad 0)] σ (o.1, (some (.int o.2))) := by
  refine CT.of mf_X12_fault (wM_D hA) (Nat.le_of_ble_eq_true rfl) ?_
  intro E xl g
  have ho : ((o.1, (some (.int o.2))) : St × Option Value) = (o.1, (some (.int o.2))) := rfl
  unfold f_X12_fault at hf
  show XJ E (wM cy Ad σ) 0 [(0, .ref (Ad 0))] []
  refine x_aload_n g 0 dX12_fault_0 rfl rfl ?_
  obtain ⟨⟨σ2, r1⟩, hgr1, hf⟩ := obind hf
  refine x_callV (r := (RX12, TX12, 53)) g xl [] [] [.int r1] (c_X12_read hA hgr1) mf_X12_read im_X12_read se_X12_read ml_X12_182 rfl wm_0 (by decide) (by decide) rfl (Nat.le_of_ble_eq_true rfl) dX12_fault_1 rfl rfl ?_
  cases hf
  exact x_iret g rfl ho dX12_fault_4
/-! SlotChipModel.routers()I -/
def f_X12_routers (σ : St) : Option Int32 :=
  some ((σ.1 0 0 0) * (σ.1 0 0 1))
set_option maxHeartbeats 4000000 in
set_option maxRecDepth 100000 in
theorem c_X12_routers {l : Launch} {D : va_G} {cy : Nat → ClassId} {Ad : Nat → Nat} (hA : AdOK 37 Ad) {σ : St} {o : Int32} (hf : f_X12_routers σ = some o) : CT l (wM cy Ad) D cy (AdA 37 Ad) yX12_routers cX12_routers 1 (some .int) 0 [.ref (Ad 0)] σ (σ, (some (.int o))) := by
  refine CT.of mf_X12_routers (wM_D hA) (Nat.le_of_ble_eq_true rfl) ?_
  intro E xl g
  have ho : ((σ, (some (.int o))) : St × Option Value) = (σ, (some (.int o))) := rfl
  unfold f_X12_routers at hf
  show XJ E (wM cy Ad σ) 0 [(0, .ref (Ad 0))] []
  refine x_aload_n g 0 dX12_routers_0 rfl rfl ?_
  refine x_get g fl_X12_119 wm_0 rfl dX12_routers_1 ?_
  refine x_aload_n g 0 dX12_routers_4 rfl rfl ?_
  refine x_get g fl_X12_123 wm_0 rfl dX12_routers_5 ?_
  refine x_imul g dX12_routers_8 ?_
  cases hf
  exact x_iret g rfl ho dX12_routers_9
/-! SlotChipModel.chip()I -/
def f_X12_chip_L118b (K118 : St → Int32 → Option (St × Int32)) (σ : St) (v1 : Int32) : Option (St × Int32) :=
  if v1 < 2 then
    (chk (inb v1 2) (
      bnd (si σ 36 0 (Int32.toNatClampNeg v1) 0) fun σ12 =>
      chk (inb v1 2) (
        bnd (si σ12 37 0 (Int32.toNatClampNeg v1) 0) fun σ13 =>
        chk (inb v1 2) (
          bnd (si σ13 38 0 (Int32.toNatClampNeg v1) 0) fun σ14 =>
          K118 σ14 (v1 + 1)))))
  else
    (bnd (si σ 0 0 4 ((σ.1 0 0 4) + 1)) fun σ15 =>
    bnd (si σ15 0 0 7 0) fun σ16 =>
    (f_X12_routers σ16).bind fun r17 =>
    some (σ16, r17))
def f_X12_chip_L118 : Nat → St → Int32 → Option (St × Int32)
  | 0 => fun _ _ => none
  | n + 1 => f_X12_chip_L118b (f_X12_chip_L118 n)
def f_X12_chip_L97b (K97 : St → Int32 → Option (St × Int32)) (σ : St) (v1 : Int32) : Option (St × Int32) :=
  if v1 < 8 then
    (chk (inb v1 8) (
      bnd (si σ 9 0 (Int32.toNatClampNeg v1) 0) fun σ11 =>
      K97 σ11 (v1 + 1)))
  else
    f_X12_chip_L118 FU σ 0
def f_X12_chip_L97 : Nat → St → Int32 → Option (St × Int32)
  | 0 => fun _ _ => none
  | n + 1 => f_X12_chip_L97b (f_X12_chip_L97 n)
def f_X12_chip_L64b (K64 : St → Int32 → Option (St × Int32)) (σ : St) (v1 : Int32) : Option (St × Int32) :=
  if v1 < 54 then
    (chk (inb v1 54) (
      chk (inb v1 54) (
        bnd (si σ 5 0 (Int32.toNatClampNeg v1) ((σ.1 44 0 (Int32.toNatClampNeg v1)) &&& 1)) fun σ9 =>
        chk (inb v1 54) (
          bnd (si σ9 6 0 (Int32.toNatClampNeg v1) 0) fun σ10 =>
          K64 σ10 (v1 + 1)))))
  else
    f_X12_chip_L97 FU σ 0
def f_X12_chip_L64 : Nat → St → Int32 → Option (St × Int32)
  | 0 => fun _ _ => none
  | n + 1 => f_X12_chip_L64b (f_X12_chip_L64 n)
def f_X12_chip (σ : St) : Option (St × Int32) :=
  (f_X12_read σ).bind fun (σ2, r1) =>
  if (σ2.1 0 0 7) ≤ r1 then
    (if (σ2.1 0 0 39) = 6 then
      (bnd (si σ2 0 0 0 (σ2.1 0 0 40)) fun σ3 =>
      bnd (si σ3 0 0 1 (σ3.1 0 0 41)) fun σ4 =>
      bnd (si σ4 0 0 2 (σ4.1 0 0 42)) fun σ5 =>
      bnd (si σ5 0 0 3 0) fun σ6 =>
      bnd (si σ6 0 0 25 0) fun σ7 =>
      bnd (si σ7 0 0 30 0) fun σ8 =>
      f_X12_chip_L64 FU σ8 0)
    else
      some (σ2, (-103)))
  else
    some (σ2, (-103))
set_option maxHeartbeats 4000000 in
set_option maxRecDepth 100000 in
theorem l_X12_chip_L118 {E : EV} {l : Launch} {D : va_G} {cy : Nat → ClassId} {Ad : Nat → Nat} {out : St × Option Value} {o : (St × Int32)} (hA : AdOK 37 Ad) (xl : XL E l D (AdA 37 Ad)) (g : XG E (wM cy Ad) cy cX12_chip RX12 2 6 (some .int) out) (ho : out = (o.1, (some (.int o.2)))) : ∀ (n : Nat) (σ : St) (v1 : Int32), f_X12_chip_L118 n σ v1 = some o → XJ E (wM cy Ad σ) 118 [(0, .ref (Ad 0)), (1, .int v1)] [] := by
  intro n
  induction n with
  | zero => intro _ _ hf; cases hf
  | succ n ih118 =>
    intro σ v1 hf
    replace hf : f_X12_chip_L118b (f_X12_chip_L118 n) σ v1 = some o := hf
    unfold f_X12_chip_L118b at hf
    refine x_iload_n g 1 dX12_chip_118 rfl rfl ?_
    refine x_iconst g 2 dX12_chip_119 (by decide) ?_
    refine x_icmp_ge g 150 dX12_chip_120 (by decide) hf (fun c120 hf => ?_) (fun c120 hf => ?_)
    · refine x_aload_n g 0 dX12_chip_123 rfl rfl ?_
      refine x_get g fl_X12_95 wm_0 rfl dX12_chip_124 ?_
      refine x_iload_n g 1 dX12_chip_127 rfl rfl ?_
      refine x_iconst g 0 dX12_chip_128 (by decide) ?_
      refine x_iastB g wm_29 (sm_29 _ _) dX12_chip_129 hf (fun σ12 hf => ?_)
      refine x_aload_n g 0 dX12_chip_130 rfl rfl ?_
      refine x_get g fl_X12_98 wm_0 rfl dX12_chip_131 ?_
      refine x_iload_n g 1 dX12_chip_134 rfl rfl ?_
      refine x_iconst g 0 dX12_chip_135 (by decide) ?_
      refine x_iastB g wm_30 (sm_30 _ _) dX12_chip_136 hf (fun σ13 hf => ?_)
      refine x_aload_n g 0 dX12_chip_137 rfl rfl ?_
      refine x_get g fl_X12_101 wm_0 rfl dX12_chip_138 ?_
      refine x_iload_n g 1 dX12_chip_141 rfl rfl ?_
      refine x_iconst g 0 dX12_chip_142 (by decide) ?_
      refine x_iastB g wm_31 (sm_31 _ _) dX12_chip_143 hf (fun σ14 hf => ?_)
      refine x_iinc g 1 (v1 + 1) (lv' := [(1, .int (v1 + 1)), (0, .ref (Ad 0))]) dX12_chip_144 rfl (by rfl) (by decide) rfl ?_
      refine x_goto g 118 dX12_chip_147 (by decide) ?_
      exact x_sub [1, 0] rfl (ih118 _ _ hf)
    · refine x_aload_n g 0 dX12_chip_150 rfl rfl ?_
      refine x_dup g dX12_chip_151 rfl ?_
      refine x_get g fl_X12_197 wm_0 rfl dX12_chip_152 ?_
      refine x_iconst g 1 dX12_chip_155 (by decide) ?_
      refine x_iadd g dX12_chip_156 ?_
      refine x_putB g tyX12 fl_X12_197 tyX12_ok nmX12 wm_0 rfl rfl rfl (Nat.le_of_ble_eq_true rfl) (sm_0_4 _) dX12_chip_157 hf (fun σ15 hf => ?_)
      refine x_aload_n g 0 dX12_chip_160 rfl rfl ?_
      refine x_iconst g 0 dX12_chip_161 (by decide) ?_
      refine x_putB g tyX12 fl_X12_138 tyX12_ok nmX12 wm_0 rfl rfl rfl (Nat.le_of_ble_eq_true rfl) (sm_0_7 _) dX12_chip_162 hf (fun σ16 hf => ?_)
      refine x_aload_n g 0 dX12_chip_165 rfl rfl ?_
      obtain ⟨r17, hgr17, hf⟩ := obind hf
      refine x_callV (r := (RX12, TX12, 53)) g xl [] [] [.int r17] (c_X12_routers hA hgr17) mf_X12_routers im_X12_routers se_X12_routers ml_X12_126 rfl wm_0 (by decide) (by decide) rfl (Nat.le_of_ble_eq_true rfl) dX12_chip_166 rfl rfl ?_
      cases hf
      exact x_iret g rfl ho dX12_chip_169
set_option maxHeartbeats 4000000 in
set_option maxRecDepth 100000 in
theorem l_X12_chip_L97 {E : EV} {l : Launch} {D : va_G} {cy : Nat → ClassId} {Ad : Nat → Nat} {out : St × Option Value} {o : (St × Int32)} (hA : AdOK 37 Ad) (xl : XL E l D (AdA 37 Ad)) (g : XG E (wM cy Ad) cy cX12_chip RX12 2 6 (some .int) out) (ho : out = (o.1, (some (.int o.2)))) : ∀ (n : Nat) (σ : St) (v1 : Int32), f_X12_chip_L97 n σ v1 = some o → XJ E (wM cy Ad σ) 97 [(0, .ref (Ad 0)), (1, .int v1)] [] := by
  intro n
  induction n with
  | zero => intro _ _ hf; cases hf
  | succ n ih97 =>
    intro σ v1 hf
    replace hf : f_X12_chip_L97b (f_X12_chip_L97 n) σ v1 = some o := hf
    unfold f_X12_chip_L97b at hf
    refine x_iload_n g 1 dX12_chip_97 rfl rfl ?_
    refine x_bipush g 8 dX12_chip_98 (by decide) ?_
    refine x_icmp_ge g 116 dX12_chip_100 (by decide) hf (fun c100 hf => ?_) (fun c100 hf => ?_)
    · refine x_aload_n g 0 dX12_chip_103 rfl rfl ?_
      refine x_get g fl_X12_20 wm_0 rfl dX12_chip_104 ?_
      refine x_iload_n g 1 dX12_chip_107 rfl rfl ?_
      refine x_iconst g 0 dX12_chip_108 (by decide) ?_
      refine x_zastB g 0 rfl wm_4 (sm_4 _ _) dX12_chip_109 hf (fun σ11 hf => ?_)
      refine x_iinc g 1 (v1 + 1) (lv' := [(1, .int (v1 + 1)), (0, .ref (Ad 0))]) dX12_chip_110 rfl (by rfl) (by decide) rfl ?_
      refine x_goto g 97 dX12_chip_113 (by decide) ?_
      exact x_sub [1, 0] rfl (ih97 _ _ hf)
    · refine x_iconst g 0 dX12_chip_116 (by decide) ?_
      refine x_istore_n (lv' := [(1, .int 0), (0, .ref (Ad 0))]) g dX12_chip_117 rfl (by decide) rfl ?_
      exact x_sub [1, 0] rfl (l_X12_chip_L118 hA xl g ho FU _ _ hf)
set_option maxHeartbeats 4000000 in
set_option maxRecDepth 100000 in
theorem l_X12_chip_L64 {E : EV} {l : Launch} {D : va_G} {cy : Nat → ClassId} {Ad : Nat → Nat} {out : St × Option Value} {o : (St × Int32)} (hA : AdOK 37 Ad) (xl : XL E l D (AdA 37 Ad)) (g : XG E (wM cy Ad) cy cX12_chip RX12 2 6 (some .int) out) (ho : out = (o.1, (some (.int o.2)))) : ∀ (n : Nat) (σ : St) (v1 : Int32), f_X12_chip_L64 n σ v1 = some o → XJ E (wM cy Ad σ) 64 [(0, .ref (Ad 0)), (1, .int v1)] [] := by
  intro n
  induction n with
  | zero => intro _ _ hf; cases hf
  | succ n ih64 =>
    intro σ v1 hf
    replace hf : f_X12_chip_L64b (f_X12_chip_L64 n) σ v1 = some o := hf
    unfold f_X12_chip_L64b at hf
    refine x_iload_n g 1 dX12_chip_64 rfl rfl ?_
    refine x_bipush g 54 dX12_chip_65 (by decide) ?_
    refine x_icmp_ge g 95 dX12_chip_67 (by decide) hf (fun c67 hf => ?_) (fun c67 hf => ?_)
    · refine x_aload_n g 0 dX12_chip_70 rfl rfl ?_
      refine x_get g fl_X12_7 wm_0 rfl dX12_chip_71 ?_
      refine x_iload_n g 1 dX12_chip_74 rfl rfl ?_
      refine x_aload_n g 0 dX12_chip_75 rfl rfl ?_
      refine x_get g fl_X12_104 wm_0 rfl dX12_chip_76 ?_
      refine x_iload_n g 1 dX12_chip_79 rfl rfl ?_
      refine x_zald g wm_32 dX12_chip_80 hf (fun hf => ?_)
      refine x_zastB g ((σ.1 44 0 (Int32.toNatClampNeg v1)) &&& 1) rfl wm_1 (sm_1 _ _) dX12_chip_81 hf (fun σ9 hf => ?_)
      refine x_aload_n g 0 dX12_chip_82 rfl rfl ?_
      refine x_get g fl_X12_13 wm_0 rfl dX12_chip_83 ?_
      refine x_iload_n g 1 dX12_chip_86 rfl rfl ?_
      refine x_iconst g 0 dX12_chip_87 (by decide) ?_
      refine x_iastB g wm_2 (sm_2 _ _) dX12_chip_88 hf (fun σ10 hf => ?_)
      refine x_iinc g 1 (v1 + 1) (lv' := [(1, .int (v1 + 1)), (0, .ref (Ad 0))]) dX12_chip_89 rfl (by rfl) (by decide) rfl ?_
      refine x_goto g 64 dX12_chip_92 (by decide) ?_
      exact x_sub [1, 0] rfl (ih64 _ _ hf)
    · refine x_iconst g 0 dX12_chip_95 (by decide) ?_
      refine x_istore_n (lv' := [(1, .int 0), (0, .ref (Ad 0))]) g dX12_chip_96 rfl (by decide) rfl ?_
      exact x_sub [1, 0] rfl (l_X12_chip_L97 hA xl g ho FU _ _ hf)
set_option maxHeartbeats 4000000 in
set_option maxRecDepth 100000 in
theorem c_X12_chip {l : Launch} {D : va_G} {cy : Nat → ClassId} {Ad : Nat → Nat} (hA : AdOK 37 Ad) {σ : St} {o : (St × Int32)} (hf : f_X12_chip σ = some o) : CT l (wM cy Ad) D cy (AdA 37 Ad) yX12_chip cX12_chip 2 (some .int) 6 [.ref (Ad 0)] σ (o.1, (some (.int o.2))) := by
  refine CT.of mf_X12_chip (wM_D hA) (Nat.le_of_ble_eq_true rfl) ?_
  intro E xl g
  have ho : ((o.1, (some (.int o.2))) : St × Option Value) = (o.1, (some (.int o.2))) := rfl
  unfold f_X12_chip at hf
  show XJ E (wM cy Ad σ) 0 [(0, .ref (Ad 0))] []
  refine x_aload_n g 0 dX12_chip_0 rfl rfl ?_
  obtain ⟨⟨σ2, r1⟩, hgr1, hf⟩ := obind hf
  refine x_callV (r := (RX12, TX12, 53)) g xl [] [] [.int r1] (c_X12_read hA hgr1) mf_X12_read im_X12_read se_X12_read ml_X12_182 rfl wm_0 (by decide) (by decide) rfl (Nat.le_of_ble_eq_true rfl) dX12_chip_1 rfl rfl ?_
  refine x_aload_n g 0 dX12_chip_4 rfl rfl ?_
  refine x_get g fl_X12_138 wm_0 rfl dX12_chip_5 ?_
  refine x_icmp_lt g 20 dX12_chip_8 (by decide) hf (fun c8 hf => ?_) (fun c8 hf => ?_)
  · refine x_aload_n g 0 dX12_chip_11 rfl rfl ?_
    refine x_get g fl_X12_155 wm_0 rfl dX12_chip_12 ?_
    refine x_bipush g 6 dX12_chip_15 (by decide) ?_
    refine x_icmp_eq g 23 dX12_chip_17 (by decide) hf (fun c17 hf => ?_) (fun c17 hf => ?_)
    · refine x_aload_n g 0 dX12_chip_23 rfl rfl ?_
      refine x_aload_n g 0 dX12_chip_24 rfl rfl ?_
      refine x_get g fl_X12_141 wm_0 rfl dX12_chip_25 ?_
      refine x_putB g tyX12 fl_X12_119 tyX12_ok nmX12 wm_0 rfl rfl rfl (Nat.le_of_ble_eq_true rfl) (sm_0_0 _) dX12_chip_28 hf (fun σ3 hf => ?_)
      refine x_aload_n g 0 dX12_chip_31 rfl rfl ?_
      refine x_aload_n g 0 dX12_chip_32 rfl rfl ?_
      refine x_get g fl_X12_144 wm_0 rfl dX12_chip_33 ?_
      refine x_putB g tyX12 fl_X12_123 tyX12_ok nmX12 wm_0 rfl rfl rfl (Nat.le_of_ble_eq_true rfl) (sm_0_1 _) dX12_chip_36 hf (fun σ4 hf => ?_)
      refine x_aload_n g 0 dX12_chip_39 rfl rfl ?_
      refine x_aload_n g 0 dX12_chip_40 rfl rfl ?_
      refine x_get g fl_X12_169 wm_0 rfl dX12_chip_41 ?_
      refine x_putB g tyX12 fl_X12_185 tyX12_ok nmX12 wm_0 rfl rfl rfl (Nat.le_of_ble_eq_true rfl) (sm_0_2 _) dX12_chip_44 hf (fun σ5 hf => ?_)
      refine x_aload_n g 0 dX12_chip_47 rfl rfl ?_
      refine x_iconst g 0 dX12_chip_48 (by decide) ?_
      refine x_putB g tyX12 fl_X12_188 tyX12_ok nmX12 wm_0 rfl rfl rfl (Nat.le_of_ble_eq_true rfl) (sm_0_3 _) dX12_chip_49 hf (fun σ6 hf => ?_)
      refine x_aload_n g 0 dX12_chip_52 rfl rfl ?_
      refine x_iconst g 0 dX12_chip_53 (by decide) ?_
      refine x_putB g tyX12 fl_X12_191 tyX12_ok nmX12 wm_0 rfl rfl rfl (Nat.le_of_ble_eq_true rfl) (sm_0_25 _) dX12_chip_54 hf (fun σ7 hf => ?_)
      refine x_aload_n g 0 dX12_chip_57 rfl rfl ?_
      refine x_iconst g 0 dX12_chip_58 (by decide) ?_
      refine x_putB g tyX12 fl_X12_194 tyX12_ok nmX12 wm_0 rfl rfl rfl (Nat.le_of_ble_eq_true rfl) (sm_0_30 _) dX12_chip_59 hf (fun σ8 hf => ?_)
      refine x_iconst g 0 dX12_chip_62 (by decide) ?_
      refine x_istore_n (lv' := [(1, .int 0), (0, .ref (Ad 0))]) g dX12_chip_63 rfl (by decide) rfl ?_
      exact x_sub [1, 0] rfl (l_X12_chip_L64 hA xl g ho FU _ _ hf)
    · refine x_bipush g (-103) dX12_chip_20 (by decide) ?_
      cases hf
      exact x_iret g rfl ho dX12_chip_22
  · refine x_bipush g (-103) dX12_chip_20 (by decide) ?_
    cases hf
    exact x_iret g rfl ho dX12_chip_22
/-! SlotChipModel.isChip()Z -/
def f_X12_isChip (σ : St) : Option Int32 :=
  if 0 < (σ.1 0 0 0) then
    some 1
  else
    some 0
set_option maxHeartbeats 4000000 in
set_option maxRecDepth 100000 in
theorem c_X12_isChip {l : Launch} {D : va_G} {cy : Nat → ClassId} {Ad : Nat → Nat} (hA : AdOK 37 Ad) {σ : St} {o : Int32} (hf : f_X12_isChip σ = some o) : CT l (wM cy Ad) D cy (AdA 37 Ad) yX12_isChip cX12_isChip 1 (some .boolean) 0 [.ref (Ad 0)] σ (σ, (some (.int o))) := by
  refine CT.of mf_X12_isChip (wM_D hA) (Nat.le_of_ble_eq_true rfl) ?_
  intro E xl g
  have ho : ((σ, (some (.int o))) : St × Option Value) = (σ, (some (.int o))) := rfl
  unfold f_X12_isChip at hf
  show XJ E (wM cy Ad σ) 0 [(0, .ref (Ad 0))] []
  refine x_aload_n g 0 dX12_isChip_0 rfl rfl ?_
  refine x_get g fl_X12_119 wm_0 rfl dX12_isChip_1 ?_
  refine x_if_le g 11 dX12_isChip_4 (by decide) hf (fun c4 hf => ?_) (fun c4 hf => ?_)
  · refine x_iconst g 1 dX12_isChip_7 (by decide) ?_
    refine x_goto g 12 dX12_isChip_8 (by decide) ?_
    cases hf
    exact x_zret g rfl (by decide) ho dX12_isChip_12
  · refine x_iconst g 0 dX12_isChip_11 (by decide) ?_
    cases hf
    exact x_zret g rfl (by decide) ho dX12_isChip_12
/-! SlotChipModel.isLink(I)Z -/
def f_X12_isLink (σ : St) (p1 : Int32) : Option Int32 :=
  (f_X12_routers σ).bind fun r1 =>
  (f_X12_within p1 0 ((6 * r1) - 1)).bind fun r2 =>
  if r2 = 0 then
    some 0
  else
    (if 2 ≤ (remI p1 6) then
      ((f_X12_leadsTo (p1 / 6) (remI p1 6) (σ.1 0 0 0) (σ.1 0 0 1)).bind fun r3 =>
      if r3 = (-1) then
        some 0
      else
        some 1)
    else
      some 1)
set_option maxHeartbeats 4000000 in
set_option maxRecDepth 100000 in
theorem c_X12_isLink {l : Launch} {D : va_G} {cy : Nat → ClassId} {Ad : Nat → Nat} (hA : AdOK 37 Ad) {σ : St} {p1 : Int32} {o : Int32} (hf : f_X12_isLink σ p1 = some o) : CT l (wM cy Ad) D cy (AdA 37 Ad) yX12_isLink cX12_isLink 2 (some .boolean) 1 [.ref (Ad 0), .int p1] σ (σ, (some (.int o))) := by
  refine CT.of mf_X12_isLink (wM_D hA) (Nat.le_of_ble_eq_true rfl) ?_
  intro E xl g
  have ho : ((σ, (some (.int o))) : St × Option Value) = (σ, (some (.int o))) := rfl
  unfold f_X12_isLink at hf
  show XJ E (wM cy Ad σ) 0 [(0, .ref (Ad 0)), (1, .int p1)] []
  refine x_iload_n g 1 dX12_isLink_0 rfl rfl ?_
  refine x_iconst g 0 dX12_isLink_1 (by decide) ?_
  refine x_bipush g 6 dX12_isLink_2 (by decide) ?_
  refine x_aload_n g 0 dX12_isLink_4 rfl rfl ?_
  obtain ⟨r1, hgr1, hf⟩ := obind hf
  refine x_callV (r := (RX12, TX12, 53)) g xl [] [.int 6, .int 0, .int p1] [.int r1, .int 6, .int 0, .int p1] (c_X12_routers hA hgr1) mf_X12_routers im_X12_routers se_X12_routers ml_X12_126 rfl wm_0 (by decide) (by decide) rfl (Nat.le_of_ble_eq_true rfl) dX12_isLink_5 rfl rfl ?_
  refine x_imul g dX12_isLink_8 ?_
  refine x_iconst g 1 dX12_isLink_9 (by decide) ?_
  refine x_isub g dX12_isLink_10 ?_
  obtain ⟨r2, hgr2, hf⟩ := obind hf
  refine x_callS g xl [.int p1, .int 0, .int ((6 * r1) - 1)] [] [.int r2] (c_X12_within hA hgr2) mf_X12_within sm_X12_within ml_X12_130 (by decide) (by decide) rfl (Nat.le_of_ble_eq_true rfl) dX12_isLink_11 rfl rfl ?_
  refine x_if_ne g 19 dX12_isLink_14 (by decide) hf (fun c14 hf => ?_) (fun c14 hf => ?_)
  · refine x_iconst g 0 dX12_isLink_17 (by decide) ?_
    cases hf
    exact x_zret g rfl (by decide) ho dX12_isLink_18
  · refine x_iload_n g 1 dX12_isLink_19 rfl rfl ?_
    refine x_bipush g 6 dX12_isLink_20 (by decide) ?_
    refine x_irem g dX12_isLink_22 (by decide) ?_
    refine x_iconst g 2 dX12_isLink_23 (by decide) ?_
    refine x_icmp_lt g 50 dX12_isLink_24 (by decide) hf (fun c24 hf => ?_) (fun c24 hf => ?_)
    · refine x_iload_n g 1 dX12_isLink_27 rfl rfl ?_
      refine x_bipush g 6 dX12_isLink_28 (by decide) ?_
      refine x_idiv g dX12_isLink_30 (by decide) ?_
      refine x_iload_n g 1 dX12_isLink_31 rfl rfl ?_
      refine x_bipush g 6 dX12_isLink_32 (by decide) ?_
      refine x_irem g dX12_isLink_34 (by decide) ?_
      refine x_aload_n g 0 dX12_isLink_35 rfl rfl ?_
      refine x_get g fl_X12_119 wm_0 rfl dX12_isLink_36 ?_
      refine x_aload_n g 0 dX12_isLink_39 rfl rfl ?_
      refine x_get g fl_X12_123 wm_0 rfl dX12_isLink_40 ?_
      obtain ⟨r3, hgr3, hf⟩ := obind hf
      refine x_callS g xl [.int (p1 / 6), .int (remI p1 6), .int (σ.1 0 0 0), .int (σ.1 0 0 1)] [] [.int r3] (c_X12_leadsTo hA hgr3) mf_X12_leadsTo sm_X12_leadsTo ml_X12_134 (by decide) (by decide) rfl (Nat.le_of_ble_eq_true rfl) dX12_isLink_43 rfl rfl ?_
      refine x_iconst g (-1) dX12_isLink_46 (by decide) ?_
      refine x_icmp_eq g 54 dX12_isLink_47 (by decide) hf (fun c47 hf => ?_) (fun c47 hf => ?_)
      · refine x_iconst g 0 dX12_isLink_54 (by decide) ?_
        cases hf
        exact x_zret g rfl (by decide) ho dX12_isLink_55
      · refine x_iconst g 1 dX12_isLink_50 (by decide) ?_
        refine x_goto g 55 dX12_isLink_51 (by decide) ?_
        cases hf
        exact x_zret g rfl (by decide) ho dX12_isLink_55
    · refine x_iconst g 1 dX12_isLink_50 (by decide) ?_
      refine x_goto g 55 dX12_isLink_51 (by decide) ?_
      cases hf
      exact x_zret g rfl (by decide) ho dX12_isLink_55
/-! SlotChipModel.linksMany()I -/
def f_X12_linksMany_L4b (σ : St) (K4 : Int32 → Int32 → Option Int32) (v1 : Int32) (v2 : Int32) : Option Int32 :=
  if v2 < 54 then
    ((f_X12_isLink σ v2).bind fun r1 =>
    if r1 = 0 then
      K4 (v1 + 0) (v2 + 1)
    else
      K4 (v1 + 1) (v2 + 1))
  else
    some v1
def f_X12_linksMany_L4 (σ : St) : Nat → Int32 → Int32 → Option Int32
  | 0 => fun _ _ => none
  | n + 1 => f_X12_linksMany_L4b σ (f_X12_linksMany_L4 σ n)
def f_X12_linksMany (σ : St) : Option Int32 :=
  f_X12_linksMany_L4 σ FU 0 0
set_option maxHeartbeats 4000000 in
set_option maxRecDepth 100000 in
theorem l_X12_linksMany_L4 {E : EV} {l : Launch} {D : va_G} {cy : Nat → ClassId} {Ad : Nat → Nat} {out : St × Option Value} {o : Int32} (hA : AdOK 37 Ad) (xl : XL E l D (AdA 37 Ad)) (g : XG E (wM cy Ad) cy cX12_linksMany RX12 3 2 (some .int) out) (σ : St) (ho : out = (σ, (some (.int o)))) : ∀ (n : Nat) (v1 : Int32) (v2 : Int32), f_X12_linksMany_L4 σ n v1 v2 = some o → XJ E (wM cy Ad σ) 4 [(0, .ref (Ad 0)), (1, .int v1), (2, .int v2)] [] := by
  intro n
  induction n with
  | zero => intro _ _ hf; cases hf
  | succ n ih4 =>
    intro v1 v2 hf
    replace hf : f_X12_linksMany_L4b σ (f_X12_linksMany_L4 σ n) v1 v2 = some o := hf
    unfold f_X12_linksMany_L4b at hf
    refine x_iload_n g 2 dX12_linksMany_4 rfl rfl ?_
    refine x_bipush g 54 dX12_linksMany_5 (by decide) ?_
    refine x_icmp_ge g 32 dX12_linksMany_7 (by decide) hf (fun c7 hf => ?_) (fun c7 hf => ?_)
    · refine x_iload_n g 1 dX12_linksMany_10 rfl rfl ?_
      refine x_aload_n g 0 dX12_linksMany_11 rfl rfl ?_
      refine x_iload_n g 2 dX12_linksMany_12 rfl rfl ?_
      obtain ⟨r1, hgr1, hf⟩ := obind hf
      refine x_callV (r := (RX12, TX12, 53)) g xl [.int v2] [.int v1] [.int r1, .int v1] (c_X12_isLink hA hgr1) mf_X12_isLink im_X12_isLink se_X12_isLink ml_X12_246 rfl wm_0 (by decide) (by decide) rfl (Nat.le_of_ble_eq_true rfl) dX12_linksMany_13 rfl rfl ?_
      refine x_if_eq g 23 dX12_linksMany_16 (by decide) hf (fun c16 hf => ?_) (fun c16 hf => ?_)
      · refine x_iconst g 0 dX12_linksMany_23 (by decide) ?_
        refine x_iadd g dX12_linksMany_24 ?_
        refine x_istore_n (lv' := [(1, .int (v1 + 0)), (0, .ref (Ad 0)), (2, .int v2)]) g dX12_linksMany_25 rfl (by decide) rfl ?_
        refine x_iinc g 2 (v2 + 1) (lv' := [(2, .int (v2 + 1)), (1, .int (v1 + 0)), (0, .ref (Ad 0))]) dX12_linksMany_26 rfl (by rfl) (by decide) rfl ?_
        refine x_goto g 4 dX12_linksMany_29 (by decide) ?_
        exact x_sub [2, 1, 0] rfl (ih4 _ _ hf)
      · refine x_iconst g 1 dX12_linksMany_19 (by decide) ?_
        refine x_goto g 24 dX12_linksMany_20 (by decide) ?_
        refine x_iadd g dX12_linksMany_24 ?_
        refine x_istore_n (lv' := [(1, .int (v1 + 1)), (0, .ref (Ad 0)), (2, .int v2)]) g dX12_linksMany_25 rfl (by decide) rfl ?_
        refine x_iinc g 2 (v2 + 1) (lv' := [(2, .int (v2 + 1)), (1, .int (v1 + 1)), (0, .ref (Ad 0))]) dX12_linksMany_26 rfl (by rfl) (by decide) rfl ?_
        refine x_goto g 4 dX12_linksMany_29 (by decide) ?_
        exact x_sub [2, 1, 0] rfl (ih4 _ _ hf)
    · refine x_iload_n g 1 dX12_linksMany_32 rfl rfl ?_
      cases hf
      exact x_iret g rfl ho dX12_linksMany_33
set_option maxHeartbeats 4000000 in
set_option maxRecDepth 100000 in
theorem c_X12_linksMany {l : Launch} {D : va_G} {cy : Nat → ClassId} {Ad : Nat → Nat} (hA : AdOK 37 Ad) {σ : St} {o : Int32} (hf : f_X12_linksMany σ = some o) : CT l (wM cy Ad) D cy (AdA 37 Ad) yX12_linksMany cX12_linksMany 3 (some .int) 2 [.ref (Ad 0)] σ (σ, (some (.int o))) := by
  refine CT.of mf_X12_linksMany (wM_D hA) (Nat.le_of_ble_eq_true rfl) ?_
  intro E xl g
  have ho : ((σ, (some (.int o))) : St × Option Value) = (σ, (some (.int o))) := rfl
  unfold f_X12_linksMany at hf
  show XJ E (wM cy Ad σ) 0 [(0, .ref (Ad 0))] []
  refine x_iconst g 0 dX12_linksMany_0 (by decide) ?_
  refine x_istore_n (lv' := [(1, .int 0), (0, .ref (Ad 0))]) g dX12_linksMany_1 rfl (by decide) rfl ?_
  refine x_iconst g 0 dX12_linksMany_2 (by decide) ?_
  refine x_istore_n (lv' := [(2, .int 0), (1, .int 0), (0, .ref (Ad 0))]) g dX12_linksMany_3 rfl (by decide) rfl ?_
  exact x_sub [2, 1, 0] rfl (l_X12_linksMany_L4 hA xl g _ ho FU _ _ hf)
/-! SlotChipModel.brokenMany()I -/
def f_X12_brokenMany_L4b (σ : St) (K4 : Int32 → Int32 → Option Int32) (v1 : Int32) (v2 : Int32) : Option Int32 :=
  if v2 < 54 then
    (chk (inb v2 54) (
      if (σ.1 5 0 (Int32.toNatClampNeg v2)) = 0 then
        K4 (v1 + 0) (v2 + 1)
      else
        K4 (v1 + 1) (v2 + 1)))
  else
    some v1
def f_X12_brokenMany_L4 (σ : St) : Nat → Int32 → Int32 → Option Int32
  | 0 => fun _ _ => none
  | n + 1 => f_X12_brokenMany_L4b σ (f_X12_brokenMany_L4 σ n)
def f_X12_brokenMany (σ : St) : Option Int32 :=
  f_X12_brokenMany_L4 σ FU 0 0
set_option maxHeartbeats 4000000 in
set_option maxRecDepth 100000 in
theorem l_X12_brokenMany_L4 {E : EV} {l : Launch} {D : va_G} {cy : Nat → ClassId} {Ad : Nat → Nat} {out : St × Option Value} {o : Int32} (hA : AdOK 37 Ad) (xl : XL E l D (AdA 37 Ad)) (g : XG E (wM cy Ad) cy cX12_brokenMany RX12 3 0 (some .int) out) (σ : St) (ho : out = (σ, (some (.int o)))) : ∀ (n : Nat) (v1 : Int32) (v2 : Int32), f_X12_brokenMany_L4 σ n v1 v2 = some o → XJ E (wM cy Ad σ) 4 [(0, .ref (Ad 0)), (1, .int v1), (2, .int v2)] [] := by
  intro n
  induction n with
  | zero => intro _ _ hf; cases hf
  | succ n ih4 =>
    intro v1 v2 hf
    replace hf : f_X12_brokenMany_L4b σ (f_X12_brokenMany_L4 σ n) v1 v2 = some o := hf
    unfold f_X12_brokenMany_L4b at hf
    refine x_iload_n g 2 dX12_brokenMany_4 rfl rfl ?_
    refine x_bipush g 54 dX12_brokenMany_5 (by decide) ?_
    refine x_icmp_ge g 33 dX12_brokenMany_7 (by decide) hf (fun c7 hf => ?_) (fun c7 hf => ?_)
    · refine x_iload_n g 1 dX12_brokenMany_10 rfl rfl ?_
      refine x_aload_n g 0 dX12_brokenMany_11 rfl rfl ?_
      refine x_get g fl_X12_7 wm_0 rfl dX12_brokenMany_12 ?_
      refine x_iload_n g 2 dX12_brokenMany_15 rfl rfl ?_
      refine x_zald g wm_1 dX12_brokenMany_16 hf (fun hf => ?_)
      refine x_if_eq g 24 dX12_brokenMany_17 (by decide) hf (fun c17 hf => ?_) (fun c17 hf => ?_)
      · refine x_iconst g 0 dX12_brokenMany_24 (by decide) ?_
        refine x_iadd g dX12_brokenMany_25 ?_
        refine x_istore_n (lv' := [(1, .int (v1 + 0)), (0, .ref (Ad 0)), (2, .int v2)]) g dX12_brokenMany_26 rfl (by decide) rfl ?_
        refine x_iinc g 2 (v2 + 1) (lv' := [(2, .int (v2 + 1)), (1, .int (v1 + 0)), (0, .ref (Ad 0))]) dX12_brokenMany_27 rfl (by rfl) (by decide) rfl ?_
        refine x_goto g 4 dX12_brokenMany_30 (by decide) ?_
        exact x_sub [2, 1, 0] rfl (ih4 _ _ hf)
      · refine x_iconst g 1 dX12_brokenMany_20 (by decide) ?_
        refine x_goto g 25 dX12_brokenMany_21 (by decide) ?_
        refine x_iadd g dX12_brokenMany_25 ?_
        refine x_istore_n (lv' := [(1, .int (v1 + 1)), (0, .ref (Ad 0)), (2, .int v2)]) g dX12_brokenMany_26 rfl (by decide) rfl ?_
        refine x_iinc g 2 (v2 + 1) (lv' := [(2, .int (v2 + 1)), (1, .int (v1 + 1)), (0, .ref (Ad 0))]) dX12_brokenMany_27 rfl (by rfl) (by decide) rfl ?_
        refine x_goto g 4 dX12_brokenMany_30 (by decide) ?_
        exact x_sub [2, 1, 0] rfl (ih4 _ _ hf)
    · refine x_iload_n g 1 dX12_brokenMany_33 rfl rfl ?_
      cases hf
      exact x_iret g rfl ho dX12_brokenMany_34
set_option maxHeartbeats 4000000 in
set_option maxRecDepth 100000 in
theorem c_X12_brokenMany {l : Launch} {D : va_G} {cy : Nat → ClassId} {Ad : Nat → Nat} (hA : AdOK 37 Ad) {σ : St} {o : Int32} (hf : f_X12_brokenMany σ = some o) : CT l (wM cy Ad) D cy (AdA 37 Ad) yX12_brokenMany cX12_brokenMany 3 (some .int) 0 [.ref (Ad 0)] σ (σ, (some (.int o))) := by
  refine CT.of mf_X12_brokenMany (wM_D hA) (Nat.le_of_ble_eq_true rfl) ?_
  intro E xl g
  have ho : ((σ, (some (.int o))) : St × Option Value) = (σ, (some (.int o))) := rfl
  unfold f_X12_brokenMany at hf
  show XJ E (wM cy Ad σ) 0 [(0, .ref (Ad 0))] []
  refine x_iconst g 0 dX12_brokenMany_0 (by decide) ?_
  refine x_istore_n (lv' := [(1, .int 0), (0, .ref (Ad 0))]) g dX12_brokenMany_1 rfl (by decide) rfl ?_
  refine x_iconst g 0 dX12_brokenMany_2 (by decide) ?_
  refine x_istore_n (lv' := [(2, .int 0), (1, .int 0), (0, .ref (Ad 0))]) g dX12_brokenMany_3 rfl (by decide) rfl ?_
  exact x_sub [2, 1, 0] rfl (l_X12_brokenMany_L4 hA xl g _ ho FU _ _ hf)
/-! SlotChipModel.isBit(II)Z -/
def f_X12_isBit (p1 : Int32) (p2 : Int32) : Option Int32 :=
  if ((p1 >>> (p2 &&& 31)) &&& 1) = 1 then
    some 1
  else
    some 0
set_option maxHeartbeats 4000000 in
set_option maxRecDepth 100000 in
theorem c_X12_isBit {l : Launch} {D : va_G} {cy : Nat → ClassId} {Ad : Nat → Nat} (hA : AdOK 37 Ad) {σ : St} {p1 : Int32} {p2 : Int32} {o : Int32} (hf : f_X12_isBit p1 p2 = some o) : CT l (wM cy Ad) D cy (AdA 37 Ad) yX12_isBit cX12_isBit 2 (some .boolean) 0 [.int p1, .int p2] σ (σ, (some (.int o))) := by
  refine CT.of mf_X12_isBit (wM_D hA) (Nat.le_of_ble_eq_true rfl) ?_
  intro E xl g
  have ho : ((σ, (some (.int o))) : St × Option Value) = (σ, (some (.int o))) := rfl
  unfold f_X12_isBit at hf
  show XJ E (wM cy Ad σ) 0 [(0, .int p1), (1, .int p2)] []
  refine x_iload_n g 0 dX12_isBit_0 rfl rfl ?_
  refine x_iload_n g 1 dX12_isBit_1 rfl rfl ?_
  refine x_ishr g dX12_isBit_2 ?_
  refine x_iconst g 1 dX12_isBit_3 (by decide) ?_
  refine x_iand g dX12_isBit_4 ?_
  refine x_iconst g 1 dX12_isBit_5 (by decide) ?_
  refine x_icmp_ne g 13 dX12_isBit_6 (by decide) hf (fun c6 hf => ?_) (fun c6 hf => ?_)
  · refine x_iconst g 1 dX12_isBit_9 (by decide) ?_
    refine x_goto g 14 dX12_isBit_10 (by decide) ?_
    cases hf
    exact x_zret g rfl (by decide) ho dX12_isBit_14
  · refine x_iconst g 0 dX12_isBit_13 (by decide) ?_
    cases hf
    exact x_zret g rfl (by decide) ho dX12_isBit_14
/-! SlotChipModel.hasSlot(III)Z -/
def f_X12_hasSlot_L22b (K6 : Int32 → Int32 → Option Int32) (σ : St) (v1 : Int32) (v2 : Int32) (v3 : Int32) (v5 : Int32) (K22 : Int32 → Int32 → Option Int32) (v4 : Int32) (v6 : Int32) : Option Int32 :=
  if v6 < (σ.1 0 0 2) then
    (chk (inb v1 8) (
      (f_X12_isBit (σ.1 17 0 (Int32.toNatClampNeg v1)) v6).bind fun r1 =>
      if r1 = 0 then
        (if v4 = 0 then
          K22 0 (v6 + 1)
        else
          K22 1 (v6 + 1))
      else
        (chk (¬ (σ.1 0 0 2) = 0) (
          if (remI (v6 + v5) (σ.1 0 0 2)) = v3 then
            (if v4 = 0 then
              (chk (inb ((8 * v1) + v5) 64) (
                if (σ.1 16 0 (Int32.toNatClampNeg ((8 * v1) + v5))) = v2 then
                  K22 1 (v6 + 1)
                else
                  K22 0 (v6 + 1)))
            else
              K22 1 (v6 + 1))
          else
            (if v4 = 0 then
              K22 0 (v6 + 1)
            else
              K22 1 (v6 + 1))))))
  else
    K6 v4 (v5 + 1)
def f_X12_hasSlot_L22 (K6 : Int32 → Int32 → Option Int32) (σ : St) (v1 : Int32) (v2 : Int32) (v3 : Int32) (v5 : Int32) : Nat → Int32 → Int32 → Option Int32
  | 0 => fun _ _ => none
  | n + 1 => f_X12_hasSlot_L22b K6 σ v1 v2 v3 v5 (f_X12_hasSlot_L22 K6 σ v1 v2 v3 v5 n)
def f_X12_hasSlot_L6b (σ : St) (v1 : Int32) (v2 : Int32) (v3 : Int32) (K6 : Int32 → Int32 → Option Int32) (v4 : Int32) (v5 : Int32) : Option Int32 :=
  chk (inb v1 8) (
    if v5 < ((σ.1 15 0 (Int32.toNatClampNeg v1)) + 2) then
      f_X12_hasSlot_L22 K6 σ v1 v2 v3 v5 FU v4 0
    else
      chk (isZ v4) (some v4))
def f_X12_hasSlot_L6 (σ : St) (v1 : Int32) (v2 : Int32) (v3 : Int32) : Nat → Int32 → Int32 → Option Int32
  | 0 => fun _ _ => none
  | n + 1 => f_X12_hasSlot_L6b σ v1 v2 v3 (f_X12_hasSlot_L6 σ v1 v2 v3 n)
def f_X12_hasSlot (σ : St) (p1 : Int32) (p2 : Int32) (p3 : Int32) : Option Int32 :=
  f_X12_hasSlot_L6 σ p1 p2 p3 FU 0 0
set_option maxHeartbeats 4000000 in
set_option maxRecDepth 100000 in
theorem l_X12_hasSlot_L22 {E : EV} {l : Launch} {D : va_G} {cy : Nat → ClassId} {Ad : Nat → Nat} {out : St × Option Value} {o : Int32} (hA : AdOK 37 Ad) (xl : XL E l D (AdA 37 Ad)) (g : XG E (wM cy Ad) cy cX12_hasSlot RX12 8 1 (some .boolean) out) {K6 : Int32 → Int32 → Option Int32} (σ : St) (v1 : Int32) (v2 : Int32) (v3 : Int32) (v5 : Int32) (ho : out = (σ, (some (.int o)))) (ih6 : ∀ (v4 : Int32) (v5 : Int32), K6 v4 v5 = some o → XJ E (wM cy Ad σ) 6 [(0, .ref (Ad 0)), (1, .int v1), (2, .int v2), (3, .int v3), (4, .int v4), (5, .int v5)] []) : ∀ (n : Nat) (v4 : Int32) (v6 : Int32), f_X12_hasSlot_L22 K6 σ v1 v2 v3 v5 n v4 v6 = some o → XJ E (wM cy Ad σ) 22 [(0, .ref (Ad 0)), (1, .int v1), (2, .int v2), (3, .int v3), (4, .int v4), (5, .int v5), (6, .int v6)] [] := by
  intro n
  induction n with
  | zero => intro _ _ hf; cases hf
  | succ n ih22 =>
    intro v4 v6 hf
    replace hf : f_X12_hasSlot_L22b K6 σ v1 v2 v3 v5 (f_X12_hasSlot_L22 K6 σ v1 v2 v3 v5 n) v4 v6 = some o := hf
    unfold f_X12_hasSlot_L22b at hf
    refine x_iload g 6 dX12_hasSlot_22 rfl ?_
    refine x_aload_n g 0 dX12_hasSlot_24 rfl rfl ?_
    refine x_get g fl_X12_185 wm_0 rfl dX12_hasSlot_25 ?_
    refine x_icmp_ge g 105 dX12_hasSlot_28 (by decide) hf (fun c28 hf => ?_) (fun c28 hf => ?_)
    · refine x_aload_n g 0 dX12_hasSlot_31 rfl rfl ?_
      refine x_get g fl_X12_44 wm_0 rfl dX12_hasSlot_32 ?_
      refine x_iload_n g 1 dX12_hasSlot_35 rfl rfl ?_
      refine x_iald g wm_12 dX12_hasSlot_36 hf (fun hf => ?_)
      refine x_iload g 6 dX12_hasSlot_37 rfl ?_
      obtain ⟨r1, hgr1, hf⟩ := obind hf
      refine x_callS g xl [.int (σ.1 17 0 (Int32.toNatClampNeg v1)), .int v6] [] [.int r1] (c_X12_isBit hA hgr1) mf_X12_isBit sm_X12_isBit ml_X12_200 (by decide) (by decide) rfl (Nat.le_of_ble_eq_true rfl) dX12_hasSlot_39 rfl rfl ?_
      refine x_if_eq g 63 dX12_hasSlot_42 (by decide) hf (fun c42 hf => ?_) (fun c42 hf => ?_)
      · refine x_iconst g 0 dX12_hasSlot_63 (by decide) ?_
        refine x_istore (lv' := [(7, .int 0), (0, .ref (Ad 0)), (1, .int v1), (2, .int v2), (3, .int v3), (4, .int v4), (5, .int v5), (6, .int v6)]) g dX12_hasSlot_64 (by decide) rfl ?_
        refine x_iload g 5 dX12_hasSlot_66 rfl ?_
        refine x_if_ne g 92 dX12_hasSlot_68 (by decide) hf (fun c68 hf => ?_) (fun c68 hf => ?_)
        · refine x_iload g 0 dX12_hasSlot_71 rfl ?_
          refine x_if_eq_t g 96 dX12_hasSlot_73 (by decide) (by decide) ?_
          refine x_iconst g 0 dX12_hasSlot_96 (by decide) ?_
          refine x_istore (lv' := [(4, .int 0), (7, .int 0), (0, .ref (Ad 0)), (1, .int v1), (2, .int v2), (3, .int v3), (5, .int v5), (6, .int v6)]) g dX12_hasSlot_97 (by decide) rfl ?_
          refine x_iinc g 7 (v6 + 1) (lv' := [(6, .int (v6 + 1)), (4, .int 0), (7, .int 0), (0, .ref (Ad 0)), (1, .int v1), (2, .int v2), (3, .int v3), (5, .int v5)]) dX12_hasSlot_99 rfl (by rfl) (by decide) rfl ?_
          refine x_goto g 22 dX12_hasSlot_102 (by decide) ?_
          exact x_sub [3, 4, 5, 6, 1, 7, 0] rfl (ih22 _ _ hf)
        · refine x_iconst g 1 dX12_hasSlot_92 (by decide) ?_
          refine x_goto g 97 dX12_hasSlot_93 (by decide) ?_
          refine x_istore (lv' := [(4, .int 1), (7, .int 0), (0, .ref (Ad 0)), (1, .int v1), (2, .int v2), (3, .int v3), (5, .int v5), (6, .int v6)]) g dX12_hasSlot_97 (by decide) rfl ?_
          refine x_iinc g 7 (v6 + 1) (lv' := [(6, .int (v6 + 1)), (4, .int 1), (7, .int 0), (0, .ref (Ad 0)), (1, .int v1), (2, .int v2), (3, .int v3), (5, .int v5)]) dX12_hasSlot_99 rfl (by rfl) (by decide) rfl ?_
          refine x_goto g 22 dX12_hasSlot_102 (by decide) ?_
          exact x_sub [3, 4, 5, 6, 1, 7, 0] rfl (ih22 _ _ hf)
      · refine x_iload g 6 dX12_hasSlot_45 rfl ?_
        refine x_iload g 5 dX12_hasSlot_47 rfl ?_
        refine x_iadd g dX12_hasSlot_49 ?_
        refine x_aload_n g 0 dX12_hasSlot_50 rfl rfl ?_
        refine x_get g fl_X12_185 wm_0 rfl dX12_hasSlot_51 ?_
        have hz := (chk_some hf).1
        replace hf := (chk_some hf).2
        refine x_irem g dX12_hasSlot_54 hz ?_
        refine x_iload_n g 3 dX12_hasSlot_55 rfl rfl ?_
        refine x_icmp_ne g 63 dX12_hasSlot_56 (by decide) hf (fun c56 hf => ?_) (fun c56 hf => ?_)
        · refine x_iconst g 1 dX12_hasSlot_59 (by decide) ?_
          refine x_goto g 64 dX12_hasSlot_60 (by decide) ?_
          refine x_istore (lv' := [(7, .int 1), (0, .ref (Ad 0)), (1, .int v1), (2, .int v2), (3, .int v3), (4, .int v4), (5, .int v5), (6, .int v6)]) g dX12_hasSlot_64 (by decide) rfl ?_
          refine x_iload g 5 dX12_hasSlot_66 rfl ?_
          refine x_if_ne g 92 dX12_hasSlot_68 (by decide) hf (fun c68 hf => ?_) (fun c68 hf => ?_)
          · refine x_iload g 0 dX12_hasSlot_71 rfl ?_
            refine x_if_eq_f g 96 dX12_hasSlot_73 (by decide) (by decide) ?_
            refine x_aload_n g 1 dX12_hasSlot_76 rfl rfl ?_
            refine x_get g fl_X12_41 wm_0 rfl dX12_hasSlot_77 ?_
            refine x_bipush g 8 dX12_hasSlot_80 (by decide) ?_
            refine x_iload_n g 2 dX12_hasSlot_82 rfl rfl ?_
            refine x_imul g dX12_hasSlot_83 ?_
            refine x_iload g 6 dX12_hasSlot_84 rfl ?_
            refine x_iadd g dX12_hasSlot_86 ?_
            refine x_iald g wm_11 dX12_hasSlot_87 hf (fun hf => ?_)
            refine x_iload_n g 3 dX12_hasSlot_88 rfl rfl ?_
            refine x_icmp_ne g 96 dX12_hasSlot_89 (by decide) hf (fun c89 hf => ?_) (fun c89 hf => ?_)
            · refine x_iconst g 1 dX12_hasSlot_92 (by decide) ?_
              refine x_goto g 97 dX12_hasSlot_93 (by decide) ?_
              refine x_istore (lv' := [(4, .int 1), (7, .int 1), (0, .ref (Ad 0)), (1, .int v1), (2, .int v2), (3, .int v3), (5, .int v5), (6, .int v6)]) g dX12_hasSlot_97 (by decide) rfl ?_
              refine x_iinc g 7 (v6 + 1) (lv' := [(6, .int (v6 + 1)), (4, .int 1), (7, .int 1), (0, .ref (Ad 0)), (1, .int v1), (2, .int v2), (3, .int v3), (5, .int v5)]) dX12_hasSlot_99 rfl (by rfl) (by decide) rfl ?_
              refine x_goto g 22 dX12_hasSlot_102 (by decide) ?_
              exact x_sub [3, 4, 5, 6, 1, 7, 0] rfl (ih22 _ _ hf)
            · refine x_iconst g 0 dX12_hasSlot_96 (by decide) ?_
              refine x_istore (lv' := [(4, .int 0), (7, .int 1), (0, .ref (Ad 0)), (1, .int v1), (2, .int v2), (3, .int v3), (5, .int v5), (6, .int v6)]) g dX12_hasSlot_97 (by decide) rfl ?_
              refine x_iinc g 7 (v6 + 1) (lv' := [(6, .int (v6 + 1)), (4, .int 0), (7, .int 1), (0, .ref (Ad 0)), (1, .int v1), (2, .int v2), (3, .int v3), (5, .int v5)]) dX12_hasSlot_99 rfl (by rfl) (by decide) rfl ?_
              refine x_goto g 22 dX12_hasSlot_102 (by decide) ?_
              exact x_sub [3, 4, 5, 6, 1, 7, 0] rfl (ih22 _ _ hf)
          · refine x_iconst g 1 dX12_hasSlot_92 (by decide) ?_
            refine x_goto g 97 dX12_hasSlot_93 (by decide) ?_
            refine x_istore (lv' := [(4, .int 1), (7, .int 1), (0, .ref (Ad 0)), (1, .int v1), (2, .int v2), (3, .int v3), (5, .int v5), (6, .int v6)]) g dX12_hasSlot_97 (by decide) rfl ?_
            refine x_iinc g 7 (v6 + 1) (lv' := [(6, .int (v6 + 1)), (4, .int 1), (7, .int 1), (0, .ref (Ad 0)), (1, .int v1), (2, .int v2), (3, .int v3), (5, .int v5)]) dX12_hasSlot_99 rfl (by rfl) (by decide) rfl ?_
            refine x_goto g 22 dX12_hasSlot_102 (by decide) ?_
            exact x_sub [3, 4, 5, 6, 1, 7, 0] rfl (ih22 _ _ hf)
        · refine x_iconst g 0 dX12_hasSlot_63 (by decide) ?_
          refine x_istore (lv' := [(7, .int 0), (0, .ref (Ad 0)), (1, .int v1), (2, .int v2), (3, .int v3), (4, .int v4), (5, .int v5), (6, .int v6)]) g dX12_hasSlot_64 (by decide) rfl ?_
          refine x_iload g 5 dX12_hasSlot_66 rfl ?_
          refine x_if_ne g 92 dX12_hasSlot_68 (by decide) hf (fun c68 hf => ?_) (fun c68 hf => ?_)
          · refine x_iload g 0 dX12_hasSlot_71 rfl ?_
            refine x_if_eq_t g 96 dX12_hasSlot_73 (by decide) (by decide) ?_
            refine x_iconst g 0 dX12_hasSlot_96 (by decide) ?_
            refine x_istore (lv' := [(4, .int 0), (7, .int 0), (0, .ref (Ad 0)), (1, .int v1), (2, .int v2), (3, .int v3), (5, .int v5), (6, .int v6)]) g dX12_hasSlot_97 (by decide) rfl ?_
            refine x_iinc g 7 (v6 + 1) (lv' := [(6, .int (v6 + 1)), (4, .int 0), (7, .int 0), (0, .ref (Ad 0)), (1, .int v1), (2, .int v2), (3, .int v3), (5, .int v5)]) dX12_hasSlot_99 rfl (by rfl) (by decide) rfl ?_
            refine x_goto g 22 dX12_hasSlot_102 (by decide) ?_
            exact x_sub [3, 4, 5, 6, 1, 7, 0] rfl (ih22 _ _ hf)
          · refine x_iconst g 1 dX12_hasSlot_92 (by decide) ?_
            refine x_goto g 97 dX12_hasSlot_93 (by decide) ?_
            refine x_istore (lv' := [(4, .int 1), (7, .int 0), (0, .ref (Ad 0)), (1, .int v1), (2, .int v2), (3, .int v3), (5, .int v5), (6, .int v6)]) g dX12_hasSlot_97 (by decide) rfl ?_
            refine x_iinc g 7 (v6 + 1) (lv' := [(6, .int (v6 + 1)), (4, .int 1), (7, .int 0), (0, .ref (Ad 0)), (1, .int v1), (2, .int v2), (3, .int v3), (5, .int v5)]) dX12_hasSlot_99 rfl (by rfl) (by decide) rfl ?_
            refine x_goto g 22 dX12_hasSlot_102 (by decide) ?_
            exact x_sub [3, 4, 5, 6, 1, 7, 0] rfl (ih22 _ _ hf)
    · refine x_iinc g 5 (v5 + 1) (lv' := [(5, .int (v5 + 1)), (0, .ref (Ad 0)), (1, .int v1), (2, .int v2), (3, .int v3), (4, .int v4), (6, .int v6)]) dX12_hasSlot_105 rfl (by rfl) (by decide) rfl ?_
      refine x_goto g 6 dX12_hasSlot_108 (by decide) ?_
      exact x_sub [1, 2, 3, 4, 5, 0] rfl (ih6 _ _ hf)
set_option maxHeartbeats 4000000 in
set_option maxRecDepth 100000 in
theorem l_X12_hasSlot_L6 {E : EV} {l : Launch} {D : va_G} {cy : Nat → ClassId} {Ad : Nat → Nat} {out : St × Option Value} {o : Int32} (hA : AdOK 37 Ad) (xl : XL E l D (AdA 37 Ad)) (g : XG E (wM cy Ad) cy cX12_hasSlot RX12 8 1 (some .boolean) out) (σ : St) (v1 : Int32) (v2 : Int32) (v3 : Int32) (ho : out = (σ, (some (.int o)))) : ∀ (n : Nat) (v4 : Int32) (v5 : Int32), f_X12_hasSlot_L6 σ v1 v2 v3 n v4 v5 = some o → XJ E (wM cy Ad σ) 6 [(0, .ref (Ad 0)), (1, .int v1), (2, .int v2), (3, .int v3), (4, .int v4), (5, .int v5)] [] := by
  intro n
  induction n with
  | zero => intro _ _ hf; cases hf
  | succ n ih6 =>
    intro v4 v5 hf
    replace hf : f_X12_hasSlot_L6b σ v1 v2 v3 (f_X12_hasSlot_L6 σ v1 v2 v3 n) v4 v5 = some o := hf
    unfold f_X12_hasSlot_L6b at hf
    refine x_iload g 5 dX12_hasSlot_6 rfl ?_
    refine x_aload_n g 0 dX12_hasSlot_8 rfl rfl ?_
    refine x_get g fl_X12_38 wm_0 rfl dX12_hasSlot_9 ?_
    refine x_iload_n g 1 dX12_hasSlot_12 rfl rfl ?_
    refine x_iald g wm_10 dX12_hasSlot_13 hf (fun hf => ?_)
    refine x_iconst g 2 dX12_hasSlot_14 (by decide) ?_
    refine x_iadd g dX12_hasSlot_15 ?_
    refine x_icmp_ge g 111 dX12_hasSlot_16 (by decide) hf (fun c16 hf => ?_) (fun c16 hf => ?_)
    · refine x_iconst g 0 dX12_hasSlot_19 (by decide) ?_
      refine x_istore (lv' := [(6, .int 0), (0, .ref (Ad 0)), (1, .int v1), (2, .int v2), (3, .int v3), (4, .int v4), (5, .int v5)]) g dX12_hasSlot_20 (by decide) rfl ?_
      exact x_sub [1, 2, 3, 4, 5, 6, 0] rfl (l_X12_hasSlot_L22 hA xl g _ _ _ _ _ ho ih6 FU _ _ hf)
    · refine x_iload g 4 dX12_hasSlot_111 rfl ?_
      have hb := isZ_and (chk_some hf).1
      replace hf := (chk_some hf).2
      cases hf
      exact x_zret g rfl hb ho dX12_hasSlot_113
set_option maxHeartbeats 4000000 in
set_option maxRecDepth 100000 in
theorem c_X12_hasSlot {l : Launch} {D : va_G} {cy : Nat → ClassId} {Ad : Nat → Nat} (hA : AdOK 37 Ad) {σ : St} {p1 : Int32} {p2 : Int32} {p3 : Int32} {o : Int32} (hf : f_X12_hasSlot σ p1 p2 p3 = some o) : CT l (wM cy Ad) D cy (AdA 37 Ad) yX12_hasSlot cX12_hasSlot 8 (some .boolean) 1 [.ref (Ad 0), .int p1, .int p2, .int p3] σ (σ, (some (.int o))) := by
  refine CT.of mf_X12_hasSlot (wM_D hA) (Nat.le_of_ble_eq_true rfl) ?_
  intro E xl g
  have ho : ((σ, (some (.int o))) : St × Option Value) = (σ, (some (.int o))) := rfl
  unfold f_X12_hasSlot at hf
  show XJ E (wM cy Ad σ) 0 [(0, .ref (Ad 0)), (1, .int p1), (2, .int p2), (3, .int p3)] []
  refine x_iconst g 0 dX12_hasSlot_0 (by decide) ?_
  refine x_istore (lv' := [(4, .int 0), (0, .ref (Ad 0)), (1, .int p1), (2, .int p2), (3, .int p3)]) g dX12_hasSlot_1 (by decide) rfl ?_
  refine x_iconst g 0 dX12_hasSlot_3 (by decide) ?_
  refine x_istore (lv' := [(5, .int 0), (4, .int 0), (0, .ref (Ad 0)), (1, .int p1), (2, .int p2), (3, .int p3)]) g dX12_hasSlot_4 (by decide) rfl ?_
  exact x_sub [2, 3, 4, 5, 1, 0] rfl (l_X12_hasSlot_L6 hA xl g _ _ _ _ ho FU _ _ hf)
/-! SlotChipModel.ownerOf(III)I -/
def f_X12_ownerOf_L3b (σ : St) (v1 : Int32) (v2 : Int32) (v3 : Int32) (K3 : Int32 → Option Int32) (v4 : Int32) : Option Int32 :=
  if v4 < 8 then
    (chk (inb v4 8) (
      if (σ.1 9 0 (Int32.toNatClampNeg v4)) = 0 then
        K3 (v4 + 1)
      else
        (if v4 = v3 then
          K3 (v4 + 1)
        else
          ((f_X12_hasSlot σ v4 v1 v2).bind fun r1 =>
          if r1 = 0 then
            K3 (v4 + 1)
          else
            some v4))))
  else
    some (-1)
def f_X12_ownerOf_L3 (σ : St) (v1 : Int32) (v2 : Int32) (v3 : Int32) : Nat → Int32 → Option Int32
  | 0 => fun _ => none
  | n + 1 => f_X12_ownerOf_L3b σ v1 v2 v3 (f_X12_ownerOf_L3 σ v1 v2 v3 n)
def f_X12_ownerOf (σ : St) (p1 : Int32) (p2 : Int32) (p3 : Int32) : Option Int32 :=
  f_X12_ownerOf_L3 σ p1 p2 p3 FU 0
set_option maxHeartbeats 4000000 in
set_option maxRecDepth 100000 in
theorem l_X12_ownerOf_L3 {E : EV} {l : Launch} {D : va_G} {cy : Nat → ClassId} {Ad : Nat → Nat} {out : St × Option Value} {o : Int32} (hA : AdOK 37 Ad) (xl : XL E l D (AdA 37 Ad)) (g : XG E (wM cy Ad) cy cX12_ownerOf RX12 5 2 (some .int) out) (σ : St) (v1 : Int32) (v2 : Int32) (v3 : Int32) (ho : out = (σ, (some (.int o)))) : ∀ (n : Nat) (v4 : Int32), f_X12_ownerOf_L3 σ v1 v2 v3 n v4 = some o → XJ E (wM cy Ad σ) 3 [(0, .ref (Ad 0)), (1, .int v1), (2, .int v2), (3, .int v3), (4, .int v4)] [] := by
  intro n
  induction n with
  | zero => intro _ hf; cases hf
  | succ n ih3 =>
    intro v4 hf
    replace hf : f_X12_ownerOf_L3b σ v1 v2 v3 (f_X12_ownerOf_L3 σ v1 v2 v3 n) v4 = some o := hf
    unfold f_X12_ownerOf_L3b at hf
    refine x_iload g 4 dX12_ownerOf_3 rfl ?_
    refine x_bipush g 8 dX12_ownerOf_5 (by decide) ?_
    refine x_icmp_ge g 46 dX12_ownerOf_7 (by decide) hf (fun c7 hf => ?_) (fun c7 hf => ?_)
    · refine x_aload_n g 0 dX12_ownerOf_10 rfl rfl ?_
      refine x_get g fl_X12_20 wm_0 rfl dX12_ownerOf_11 ?_
      refine x_iload g 4 dX12_ownerOf_14 rfl ?_
      refine x_zald g wm_4 dX12_ownerOf_16 hf (fun hf => ?_)
      refine x_if_eq g 40 dX12_ownerOf_17 (by decide) hf (fun c17 hf => ?_) (fun c17 hf => ?_)
      · refine x_iinc g 4 (v4 + 1) (lv' := [(4, .int (v4 + 1)), (0, .ref (Ad 0)), (1, .int v1), (2, .int v2), (3, .int v3)]) dX12_ownerOf_40 rfl (by rfl) (by decide) rfl ?_
        refine x_goto g 3 dX12_ownerOf_43 (by decide) ?_
        exact x_sub [1, 2, 3, 4, 0] rfl (ih3 _ hf)
      · refine x_iload g 4 dX12_ownerOf_20 rfl ?_
        refine x_iload_n g 3 dX12_ownerOf_22 rfl rfl ?_
        refine x_icmp_eq g 40 dX12_ownerOf_23 (by decide) hf (fun c23 hf => ?_) (fun c23 hf => ?_)
        · refine x_iinc g 4 (v4 + 1) (lv' := [(4, .int (v4 + 1)), (0, .ref (Ad 0)), (1, .int v1), (2, .int v2), (3, .int v3)]) dX12_ownerOf_40 rfl (by rfl) (by decide) rfl ?_
          refine x_goto g 3 dX12_ownerOf_43 (by decide) ?_
          exact x_sub [1, 2, 3, 4, 0] rfl (ih3 _ hf)
        · refine x_aload_n g 0 dX12_ownerOf_26 rfl rfl ?_
          refine x_iload g 4 dX12_ownerOf_27 rfl ?_
          refine x_iload_n g 1 dX12_ownerOf_29 rfl rfl ?_
          refine x_iload_n g 2 dX12_ownerOf_30 rfl rfl ?_
          obtain ⟨r1, hgr1, hf⟩ := obind hf
          refine x_callV (r := (RX12, TX12, 53)) g xl [.int v4, .int v1, .int v2] [] [.int r1] (c_X12_hasSlot hA hgr1) mf_X12_hasSlot im_X12_hasSlot se_X12_hasSlot ml_X12_203 rfl wm_0 (by decide) (by decide) rfl (Nat.le_of_ble_eq_true rfl) dX12_ownerOf_31 rfl rfl ?_
          refine x_if_eq g 40 dX12_ownerOf_34 (by decide) hf (fun c34 hf => ?_) (fun c34 hf => ?_)
          · refine x_iinc g 4 (v4 + 1) (lv' := [(4, .int (v4 + 1)), (0, .ref (Ad 0)), (1, .int v1), (2, .int v2), (3, .int v3)]) dX12_ownerOf_40 rfl (by rfl) (by decide) rfl ?_
            refine x_goto g 3 dX12_ownerOf_43 (by decide) ?_
            exact x_sub [1, 2, 3, 4, 0] rfl (ih3 _ hf)
          · refine x_iload g 4 dX12_ownerOf_37 rfl ?_
            cases hf
            exact x_iret g rfl ho dX12_ownerOf_39
    · refine x_iconst g (-1) dX12_ownerOf_46 (by decide) ?_
      cases hf
      exact x_iret g rfl ho dX12_ownerOf_47
set_option maxHeartbeats 4000000 in
set_option maxRecDepth 100000 in
theorem c_X12_ownerOf {l : Launch} {D : va_G} {cy : Nat → ClassId} {Ad : Nat → Nat} (hA : AdOK 37 Ad) {σ : St} {p1 : Int32} {p2 : Int32} {p3 : Int32} {o : Int32} (hf : f_X12_ownerOf σ p1 p2 p3 = some o) : CT l (wM cy Ad) D cy (AdA 37 Ad) yX12_ownerOf cX12_ownerOf 5 (some .int) 2 [.ref (Ad 0), .int p1, .int p2, .int p3] σ (σ, (some (.int o))) := by
  refine CT.of mf_X12_ownerOf (wM_D hA) (Nat.le_of_ble_eq_true rfl) ?_
  intro E xl g
  have ho : ((σ, (some (.int o))) : St × Option Value) = (σ, (some (.int o))) := rfl
  unfold f_X12_ownerOf at hf
  show XJ E (wM cy Ad σ) 0 [(0, .ref (Ad 0)), (1, .int p1), (2, .int p2), (3, .int p3)] []
  refine x_iconst g 0 dX12_ownerOf_0 (by decide) ?_
  refine x_istore (lv' := [(4, .int 0), (0, .ref (Ad 0)), (1, .int p1), (2, .int p2), (3, .int p3)]) g dX12_ownerOf_1 (by decide) rfl ?_
  exact x_sub [1, 2, 3, 4, 0] rfl (l_X12_ownerOf_L3 hA xl g _ _ _ _ ho FU _ hf)
/-! SlotChipModel.hadOf(I)I -/
def f_X12_hadOf_L4b (σ : St) (v1 : Int32) (K4 : Int32 → Int32 → Option Int32) (v2 : Int32) (v3 : Int32) : Option Int32 :=
  if v3 < (σ.1 0 0 2) then
    ((f_X12_ownerOf σ v1 v3 (-1)).bind fun r1 =>
    if r1 = (-1) then
      K4 (v2 + 0) (v3 + 1)
    else
      K4 (v2 + 1) (v3 + 1))
  else
    some v2
def f_X12_hadOf_L4 (σ : St) (v1 : Int32) : Nat → Int32 → Int32 → Option Int32
  | 0 => fun _ _ => none
  | n + 1 => f_X12_hadOf_L4b σ v1 (f_X12_hadOf_L4 σ v1 n)
def f_X12_hadOf (σ : St) (p1 : Int32) : Option Int32 :=
  f_X12_hadOf_L4 σ p1 FU 0 0
set_option maxHeartbeats 4000000 in
set_option maxRecDepth 100000 in
theorem l_X12_hadOf_L4 {E : EV} {l : Launch} {D : va_G} {cy : Nat → ClassId} {Ad : Nat → Nat} {out : St × Option Value} {o : Int32} (hA : AdOK 37 Ad) (xl : XL E l D (AdA 37 Ad)) (g : XG E (wM cy Ad) cy cX12_hadOf RX12 4 3 (some .int) out) (σ : St) (v1 : Int32) (ho : out = (σ, (some (.int o)))) : ∀ (n : Nat) (v2 : Int32) (v3 : Int32), f_X12_hadOf_L4 σ v1 n v2 v3 = some o → XJ E (wM cy Ad σ) 4 [(0, .ref (Ad 0)), (1, .int v1), (2, .int v2), (3, .int v3)] [] := by
  intro n
  induction n with
  | zero => intro _ _ hf; cases hf
  | succ n ih4 =>
    intro v2 v3 hf
    replace hf : f_X12_hadOf_L4b σ v1 (f_X12_hadOf_L4 σ v1 n) v2 v3 = some o := hf
    unfold f_X12_hadOf_L4b at hf
    refine x_iload_n g 3 dX12_hadOf_4 rfl rfl ?_
    refine x_aload_n g 0 dX12_hadOf_5 rfl rfl ?_
    refine x_get g fl_X12_185 wm_0 rfl dX12_hadOf_6 ?_
    refine x_icmp_ge g 37 dX12_hadOf_9 (by decide) hf (fun c9 hf => ?_) (fun c9 hf => ?_)
    · refine x_iload_n g 2 dX12_hadOf_12 rfl rfl ?_
      refine x_aload_n g 0 dX12_hadOf_13 rfl rfl ?_
      refine x_iload_n g 1 dX12_hadOf_14 rfl rfl ?_
      refine x_iload_n g 3 dX12_hadOf_15 rfl rfl ?_
      refine x_iconst g (-1) dX12_hadOf_16 (by decide) ?_
      obtain ⟨r1, hgr1, hf⟩ := obind hf
      refine x_callV (r := (RX12, TX12, 53)) g xl [.int v1, .int v3, .int (-1)] [.int v2] [.int r1, .int v2] (c_X12_ownerOf hA hgr1) mf_X12_ownerOf im_X12_ownerOf se_X12_ownerOf ml_X12_206 rfl wm_0 (by decide) (by decide) rfl (Nat.le_of_ble_eq_true rfl) dX12_hadOf_17 rfl rfl ?_
      refine x_iconst g (-1) dX12_hadOf_20 (by decide) ?_
      refine x_icmp_ne g 28 dX12_hadOf_21 (by decide) hf (fun c21 hf => ?_) (fun c21 hf => ?_)
      · refine x_iconst g 0 dX12_hadOf_24 (by decide) ?_
        refine x_goto g 29 dX12_hadOf_25 (by decide) ?_
        refine x_iadd g dX12_hadOf_29 ?_
        refine x_istore_n (lv' := [(2, .int (v2 + 0)), (0, .ref (Ad 0)), (1, .int v1), (3, .int v3)]) g dX12_hadOf_30 rfl (by decide) rfl ?_
        refine x_iinc g 3 (v3 + 1) (lv' := [(3, .int (v3 + 1)), (2, .int (v2 + 0)), (0, .ref (Ad 0)), (1, .int v1)]) dX12_hadOf_31 rfl (by rfl) (by decide) rfl ?_
        refine x_goto g 4 dX12_hadOf_34 (by decide) ?_
        exact x_sub [2, 3, 1, 0] rfl (ih4 _ _ hf)
      · refine x_iconst g 1 dX12_hadOf_28 (by decide) ?_
        refine x_iadd g dX12_hadOf_29 ?_
        refine x_istore_n (lv' := [(2, .int (v2 + 1)), (0, .ref (Ad 0)), (1, .int v1), (3, .int v3)]) g dX12_hadOf_30 rfl (by decide) rfl ?_
        refine x_iinc g 3 (v3 + 1) (lv' := [(3, .int (v3 + 1)), (2, .int (v2 + 1)), (0, .ref (Ad 0)), (1, .int v1)]) dX12_hadOf_31 rfl (by rfl) (by decide) rfl ?_
        refine x_goto g 4 dX12_hadOf_34 (by decide) ?_
        exact x_sub [2, 3, 1, 0] rfl (ih4 _ _ hf)
    · refine x_iload_n g 2 dX12_hadOf_37 rfl rfl ?_
      cases hf
      exact x_iret g rfl ho dX12_hadOf_38
set_option maxHeartbeats 4000000 in
set_option maxRecDepth 100000 in
theorem c_X12_hadOf {l : Launch} {D : va_G} {cy : Nat → ClassId} {Ad : Nat → Nat} (hA : AdOK 37 Ad) {σ : St} {p1 : Int32} {o : Int32} (hf : f_X12_hadOf σ p1 = some o) : CT l (wM cy Ad) D cy (AdA 37 Ad) yX12_hadOf cX12_hadOf 4 (some .int) 3 [.ref (Ad 0), .int p1] σ (σ, (some (.int o))) := by
  refine CT.of mf_X12_hadOf (wM_D hA) (Nat.le_of_ble_eq_true rfl) ?_
  intro E xl g
  have ho : ((σ, (some (.int o))) : St × Option Value) = (σ, (some (.int o))) := rfl
  unfold f_X12_hadOf at hf
  show XJ E (wM cy Ad σ) 0 [(0, .ref (Ad 0)), (1, .int p1)] []
  refine x_iconst g 0 dX12_hadOf_0 (by decide) ?_
  refine x_istore_n (lv' := [(2, .int 0), (0, .ref (Ad 0)), (1, .int p1)]) g dX12_hadOf_1 rfl (by decide) rfl ?_
  refine x_iconst g 0 dX12_hadOf_2 (by decide) ?_
  refine x_istore_n (lv' := [(3, .int 0), (2, .int 0), (0, .ref (Ad 0)), (1, .int p1)]) g dX12_hadOf_3 rfl (by decide) rfl ?_
  exact x_sub [2, 3, 1, 0] rfl (l_X12_hadOf_L4 hA xl g _ _ ho FU _ _ hf)
/-! SlotChipModel.allHad()I -/
def f_X12_allHad_L4b (σ : St) (K4 : Int32 → Int32 → Option Int32) (v1 : Int32) (v2 : Int32) : Option Int32 :=
  if v2 < 54 then
    ((f_X12_isLink σ v2).bind fun r1 =>
    if r1 = 0 then
      K4 (v1 + 0) (v2 + 1)
    else
      ((f_X12_hadOf σ v2).bind fun r2 =>
      K4 (v1 + r2) (v2 + 1)))
  else
    some v1
def f_X12_allHad_L4 (σ : St) : Nat → Int32 → Int32 → Option Int32
  | 0 => fun _ _ => none
  | n + 1 => f_X12_allHad_L4b σ (f_X12_allHad_L4 σ n)
def f_X12_allHad (σ : St) : Option Int32 :=
  f_X12_allHad_L4 σ FU 0 0
set_option maxHeartbeats 4000000 in
set_option maxRecDepth 100000 in
theorem l_X12_allHad_L4 {E : EV} {l : Launch} {D : va_G} {cy : Nat → ClassId} {Ad : Nat → Nat} {out : St × Option Value} {o : Int32} (hA : AdOK 37 Ad) (xl : XL E l D (AdA 37 Ad)) (g : XG E (wM cy Ad) cy cX12_allHad RX12 3 4 (some .int) out) (σ : St) (ho : out = (σ, (some (.int o)))) : ∀ (n : Nat) (v1 : Int32) (v2 : Int32), f_X12_allHad_L4 σ n v1 v2 = some o → XJ E (wM cy Ad σ) 4 [(0, .ref (Ad 0)), (1, .int v1), (2, .int v2)] [] := by
  intro n
  induction n with
  | zero => intro _ _ hf; cases hf
  | succ n ih4 =>
    intro v1 v2 hf
    replace hf : f_X12_allHad_L4b σ (f_X12_allHad_L4 σ n) v1 v2 = some o := hf
    unfold f_X12_allHad_L4b at hf
    refine x_iload_n g 2 dX12_allHad_4 rfl rfl ?_
    refine x_bipush g 54 dX12_allHad_5 (by decide) ?_
    refine x_icmp_ge g 36 dX12_allHad_7 (by decide) hf (fun c7 hf => ?_) (fun c7 hf => ?_)
    · refine x_iload_n g 1 dX12_allHad_10 rfl rfl ?_
      refine x_aload_n g 0 dX12_allHad_11 rfl rfl ?_
      refine x_iload_n g 2 dX12_allHad_12 rfl rfl ?_
      obtain ⟨r1, hgr1, hf⟩ := obind hf
      refine x_callV (r := (RX12, TX12, 53)) g xl [.int v2] [.int v1] [.int r1, .int v1] (c_X12_isLink hA hgr1) mf_X12_isLink im_X12_isLink se_X12_isLink ml_X12_246 rfl wm_0 (by decide) (by decide) rfl (Nat.le_of_ble_eq_true rfl) dX12_allHad_13 rfl rfl ?_
      refine x_if_eq g 27 dX12_allHad_16 (by decide) hf (fun c16 hf => ?_) (fun c16 hf => ?_)
      · refine x_iconst g 0 dX12_allHad_27 (by decide) ?_
        refine x_iadd g dX12_allHad_28 ?_
        refine x_istore_n (lv' := [(1, .int (v1 + 0)), (0, .ref (Ad 0)), (2, .int v2)]) g dX12_allHad_29 rfl (by decide) rfl ?_
        refine x_iinc g 2 (v2 + 1) (lv' := [(2, .int (v2 + 1)), (1, .int (v1 + 0)), (0, .ref (Ad 0))]) dX12_allHad_30 rfl (by rfl) (by decide) rfl ?_
        refine x_goto g 4 dX12_allHad_33 (by decide) ?_
        exact x_sub [2, 1, 0] rfl (ih4 _ _ hf)
      · refine x_aload_n g 0 dX12_allHad_19 rfl rfl ?_
        refine x_iload_n g 2 dX12_allHad_20 rfl rfl ?_
        obtain ⟨r2, hgr2, hf⟩ := obind hf
        refine x_callV (r := (RX12, TX12, 53)) g xl [.int v2] [.int v1] [.int r2, .int v1] (c_X12_hadOf hA hgr2) mf_X12_hadOf im_X12_hadOf se_X12_hadOf ml_X12_249 rfl wm_0 (by decide) (by decide) rfl (Nat.le_of_ble_eq_true rfl) dX12_allHad_21 rfl rfl ?_
        refine x_goto g 28 dX12_allHad_24 (by decide) ?_
        refine x_iadd g dX12_allHad_28 ?_
        refine x_istore_n (lv' := [(1, .int (v1 + r2)), (0, .ref (Ad 0)), (2, .int v2)]) g dX12_allHad_29 rfl (by decide) rfl ?_
        refine x_iinc g 2 (v2 + 1) (lv' := [(2, .int (v2 + 1)), (1, .int (v1 + r2)), (0, .ref (Ad 0))]) dX12_allHad_30 rfl (by rfl) (by decide) rfl ?_
        refine x_goto g 4 dX12_allHad_33 (by decide) ?_
        exact x_sub [2, 1, 0] rfl (ih4 _ _ hf)
    · refine x_iload_n g 1 dX12_allHad_36 rfl rfl ?_
      cases hf
      exact x_iret g rfl ho dX12_allHad_37
set_option maxHeartbeats 4000000 in
set_option maxRecDepth 100000 in
theorem c_X12_allHad {l : Launch} {D : va_G} {cy : Nat → ClassId} {Ad : Nat → Nat} (hA : AdOK 37 Ad) {σ : St} {o : Int32} (hf : f_X12_allHad σ = some o) : CT l (wM cy Ad) D cy (AdA 37 Ad) yX12_allHad cX12_allHad 3 (some .int) 4 [.ref (Ad 0)] σ (σ, (some (.int o))) := by
  refine CT.of mf_X12_allHad (wM_D hA) (Nat.le_of_ble_eq_true rfl) ?_
  intro E xl g
  have ho : ((σ, (some (.int o))) : St × Option Value) = (σ, (some (.int o))) := rfl
  unfold f_X12_allHad at hf
  show XJ E (wM cy Ad σ) 0 [(0, .ref (Ad 0))] []
  refine x_iconst g 0 dX12_allHad_0 (by decide) ?_
  refine x_istore_n (lv' := [(1, .int 0), (0, .ref (Ad 0))]) g dX12_allHad_1 rfl (by decide) rfl ?_
  refine x_iconst g 0 dX12_allHad_2 (by decide) ?_
  refine x_istore_n (lv' := [(2, .int 0), (1, .int 0), (0, .ref (Ad 0))]) g dX12_allHad_3 rfl (by decide) rfl ?_
  exact x_sub [2, 1, 0] rfl (l_X12_allHad_L4 hA xl g _ ho FU _ _ hf)
/-! SlotChipModel.busiest()I -/
def f_X12_busiest_L4b (σ : St) (K4 : Int32 → Int32 → Option Int32) (v1 : Int32) (v2 : Int32) : Option Int32 :=
  if v2 < 54 then
    ((f_X12_isLink σ v2).bind fun r1 =>
    if r1 = 0 then
      K4 v1 (v2 + 1)
    else
      (chk (inb v2 54) (
        chk (inb v1 54) (
          if (σ.1 6 0 (Int32.toNatClampNeg v1)) < (σ.1 6 0 (Int32.toNatClampNeg v2)) then
            K4 v2 (v2 + 1)
          else
            K4 v1 (v2 + 1)))))
  else
    some v1
def f_X12_busiest_L4 (σ : St) : Nat → Int32 → Int32 → Option Int32
  | 0 => fun _ _ => none
  | n + 1 => f_X12_busiest_L4b σ (f_X12_busiest_L4 σ n)
def f_X12_busiest (σ : St) : Option Int32 :=
  f_X12_busiest_L4 σ FU 0 0
set_option maxHeartbeats 4000000 in
set_option maxRecDepth 100000 in
theorem l_X12_busiest_L4 {E : EV} {l : Launch} {D : va_G} {cy : Nat → ClassId} {Ad : Nat → Nat} {out : St × Option Value} {o : Int32} (hA : AdOK 37 Ad) (xl : XL E l D (AdA 37 Ad)) (g : XG E (wM cy Ad) cy cX12_busiest RX12 3 2 (some .int) out) (σ : St) (ho : out = (σ, (some (.int o)))) : ∀ (n : Nat) (v1 : Int32) (v2 : Int32), f_X12_busiest_L4 σ n v1 v2 = some o → XJ E (wM cy Ad σ) 4 [(0, .ref (Ad 0)), (1, .int v1), (2, .int v2)] [] := by
  intro n
  induction n with
  | zero => intro _ _ hf; cases hf
  | succ n ih4 =>
    intro v1 v2 hf
    replace hf : f_X12_busiest_L4b σ (f_X12_busiest_L4 σ n) v1 v2 = some o := hf
    unfold f_X12_busiest_L4b at hf
    refine x_iload_n g 2 dX12_busiest_4 rfl rfl ?_
    refine x_bipush g 54 dX12_busiest_5 (by decide) ?_
    refine x_icmp_ge g 45 dX12_busiest_7 (by decide) hf (fun c7 hf => ?_) (fun c7 hf => ?_)
    · refine x_aload_n g 0 dX12_busiest_10 rfl rfl ?_
      refine x_iload_n g 2 dX12_busiest_11 rfl rfl ?_
      obtain ⟨r1, hgr1, hf⟩ := obind hf
      refine x_callV (r := (RX12, TX12, 53)) g xl [.int v2] [] [.int r1] (c_X12_isLink hA hgr1) mf_X12_isLink im_X12_isLink se_X12_isLink ml_X12_246 rfl wm_0 (by decide) (by decide) rfl (Nat.le_of_ble_eq_true rfl) dX12_busiest_12 rfl rfl ?_
      refine x_if_eq g 37 dX12_busiest_15 (by decide) hf (fun c15 hf => ?_) (fun c15 hf => ?_)
      · refine x_iload_n g 1 dX12_busiest_37 rfl rfl ?_
        refine x_istore_n (lv' := [(1, .int v1), (0, .ref (Ad 0)), (2, .int v2)]) g dX12_busiest_38 rfl (by decide) rfl ?_
        refine x_iinc g 2 (v2 + 1) (lv' := [(2, .int (v2 + 1)), (1, .int v1), (0, .ref (Ad 0))]) dX12_busiest_39 rfl (by rfl) (by decide) rfl ?_
        refine x_goto g 4 dX12_busiest_42 (by decide) ?_
        exact x_sub [2, 1, 0] rfl (ih4 _ _ hf)
      · refine x_aload_n g 0 dX12_busiest_18 rfl rfl ?_
        refine x_get g fl_X12_13 wm_0 rfl dX12_busiest_19 ?_
        refine x_iload_n g 2 dX12_busiest_22 rfl rfl ?_
        refine x_iald g wm_2 dX12_busiest_23 hf (fun hf => ?_)
        refine x_aload_n g 0 dX12_busiest_24 rfl rfl ?_
        refine x_get g fl_X12_13 wm_0 rfl dX12_busiest_25 ?_
        refine x_iload_n g 1 dX12_busiest_28 rfl rfl ?_
        refine x_iald g wm_2 dX12_busiest_29 hf (fun hf => ?_)
        refine x_icmp_le g 37 dX12_busiest_30 (by decide) hf (fun c30 hf => ?_) (fun c30 hf => ?_)
        · refine x_iload_n g 2 dX12_busiest_33 rfl rfl ?_
          refine x_goto g 38 dX12_busiest_34 (by decide) ?_
          refine x_istore_n (lv' := [(1, .int v2), (0, .ref (Ad 0)), (2, .int v2)]) g dX12_busiest_38 rfl (by decide) rfl ?_
          refine x_iinc g 2 (v2 + 1) (lv' := [(2, .int (v2 + 1)), (1, .int v2), (0, .ref (Ad 0))]) dX12_busiest_39 rfl (by rfl) (by decide) rfl ?_
          refine x_goto g 4 dX12_busiest_42 (by decide) ?_
          exact x_sub [2, 1, 0] rfl (ih4 _ _ hf)
        · refine x_iload_n g 1 dX12_busiest_37 rfl rfl ?_
          refine x_istore_n (lv' := [(1, .int v1), (0, .ref (Ad 0)), (2, .int v2)]) g dX12_busiest_38 rfl (by decide) rfl ?_
          refine x_iinc g 2 (v2 + 1) (lv' := [(2, .int (v2 + 1)), (1, .int v1), (0, .ref (Ad 0))]) dX12_busiest_39 rfl (by rfl) (by decide) rfl ?_
          refine x_goto g 4 dX12_busiest_42 (by decide) ?_
          exact x_sub [2, 1, 0] rfl (ih4 _ _ hf)
    · refine x_iload_n g 1 dX12_busiest_45 rfl rfl ?_
      cases hf
      exact x_iret g rfl ho dX12_busiest_46
set_option maxHeartbeats 4000000 in
set_option maxRecDepth 100000 in
theorem c_X12_busiest {l : Launch} {D : va_G} {cy : Nat → ClassId} {Ad : Nat → Nat} (hA : AdOK 37 Ad) {σ : St} {o : Int32} (hf : f_X12_busiest σ = some o) : CT l (wM cy Ad) D cy (AdA 37 Ad) yX12_busiest cX12_busiest 3 (some .int) 2 [.ref (Ad 0)] σ (σ, (some (.int o))) := by
  refine CT.of mf_X12_busiest (wM_D hA) (Nat.le_of_ble_eq_true rfl) ?_
  intro E xl g
  have ho : ((σ, (some (.int o))) : St × Option Value) = (σ, (some (.int o))) := rfl
  unfold f_X12_busiest at hf
  show XJ E (wM cy Ad σ) 0 [(0, .ref (Ad 0))] []
  refine x_iconst g 0 dX12_busiest_0 (by decide) ?_
  refine x_istore_n (lv' := [(1, .int 0), (0, .ref (Ad 0))]) g dX12_busiest_1 rfl (by decide) rfl ?_
  refine x_iconst g 0 dX12_busiest_2 (by decide) ?_
  refine x_istore_n (lv' := [(2, .int 0), (1, .int 0), (0, .ref (Ad 0))]) g dX12_busiest_3 rfl (by decide) rfl ?_
  exact x_sub [2, 1, 0] rfl (l_X12_busiest_L4 hA xl g _ ho FU _ _ hf)
/-! SlotChipModel.aboutNow(I)I -/
def f_X12_aboutNow (σ : St) (p1 : Int32) : Option Int32 :=
  if p1 = 0 then
    some (σ.1 0 0 0)
  else
    (if p1 = 1 then
      some (σ.1 0 0 1)
    else
      (if p1 = 2 then
        some (σ.1 0 0 2)
      else
        (if p1 = 3 then
          ((f_X12_linksMany σ).bind fun r1 =>
          some r1)
        else
          (if p1 = 4 then
            ((f_X12_brokenMany σ).bind fun r2 =>
            some r2)
          else
            (if p1 = 5 then
              ((f_X12_allHad σ).bind fun r3 =>
              some r3)
            else
              (if p1 = 6 then
                some (σ.1 0 0 3)
              else
                ((f_X12_busiest σ).bind fun r4 =>
                some r4)))))))
set_option maxHeartbeats 4000000 in
set_option maxRecDepth 100000 in
theorem c_X12_aboutNow {l : Launch} {D : va_G} {cy : Nat → ClassId} {Ad : Nat → Nat} (hA : AdOK 37 Ad) {σ : St} {p1 : Int32} {o : Int32} (hf : f_X12_aboutNow σ p1 = some o) : CT l (wM cy Ad) D cy (AdA 37 Ad) yX12_aboutNow cX12_aboutNow 2 (some .int) 5 [.ref (Ad 0), .int p1] σ (σ, (some (.int o))) := by
  refine CT.of mf_X12_aboutNow (wM_D hA) (Nat.le_of_ble_eq_true rfl) ?_
  intro E xl g
  have ho : ((σ, (some (.int o))) : St × Option Value) = (σ, (some (.int o))) := rfl
  unfold f_X12_aboutNow at hf
  show XJ E (wM cy Ad σ) 0 [(0, .ref (Ad 0)), (1, .int p1)] []
  refine x_iload_n g 1 dX12_aboutNow_0 rfl rfl ?_
  refine sp hf (fun n_1_0 hf => ?_) (fun n_1_0 hf => ?_)
  · refine x_tin g 0 43 44 dX12_aboutNow_1 n_1_0 (by decide) ?_
    refine x_aload_n g 0 dX12_aboutNow_44 rfl rfl ?_
    refine x_get g fl_X12_119 wm_0 rfl dX12_aboutNow_45 ?_
    cases hf
    exact x_iret g rfl ho dX12_aboutNow_48
  · refine sp hf (fun n_1_1 hf => ?_) (fun n_1_1 hf => ?_)
    · refine x_tin g 1 48 49 dX12_aboutNow_1 n_1_1 (by decide) ?_
      refine x_aload_n g 0 dX12_aboutNow_49 rfl rfl ?_
      refine x_get g fl_X12_123 wm_0 rfl dX12_aboutNow_50 ?_
      cases hf
      exact x_iret g rfl ho dX12_aboutNow_53
    · refine sp hf (fun n_1_2 hf => ?_) (fun n_1_2 hf => ?_)
      · refine x_tin g 2 53 54 dX12_aboutNow_1 n_1_2 (by decide) ?_
        refine x_aload_n g 0 dX12_aboutNow_54 rfl rfl ?_
        refine x_get g fl_X12_185 wm_0 rfl dX12_aboutNow_55 ?_
        cases hf
        exact x_iret g rfl ho dX12_aboutNow_58
      · refine sp hf (fun n_1_3 hf => ?_) (fun n_1_3 hf => ?_)
        · refine x_tin g 3 58 59 dX12_aboutNow_1 n_1_3 (by decide) ?_
          refine x_aload_n g 0 dX12_aboutNow_59 rfl rfl ?_
          obtain ⟨r1, hgr1, hf⟩ := obind hf
          refine x_callV (r := (RX12, TX12, 53)) g xl [] [] [.int r1] (c_X12_linksMany hA hgr1) mf_X12_linksMany im_X12_linksMany se_X12_linksMany ml_X12_252 rfl wm_0 (by decide) (by decide) rfl (Nat.le_of_ble_eq_true rfl) dX12_aboutNow_60 rfl rfl ?_
          cases hf
          exact x_iret g rfl ho dX12_aboutNow_63
        · refine sp hf (fun n_1_4 hf => ?_) (fun n_1_4 hf => ?_)
          · refine x_tin g 4 63 64 dX12_aboutNow_1 n_1_4 (by decide) ?_
            refine x_aload_n g 0 dX12_aboutNow_64 rfl rfl ?_
            obtain ⟨r2, hgr2, hf⟩ := obind hf
            refine x_callV (r := (RX12, TX12, 53)) g xl [] [] [.int r2] (c_X12_brokenMany hA hgr2) mf_X12_brokenMany im_X12_brokenMany se_X12_brokenMany ml_X12_255 rfl wm_0 (by decide) (by decide) rfl (Nat.le_of_ble_eq_true rfl) dX12_aboutNow_65 rfl rfl ?_
            cases hf
            exact x_iret g rfl ho dX12_aboutNow_68
          · refine sp hf (fun n_1_5 hf => ?_) (fun n_1_5 hf => ?_)
            · refine x_tin g 5 68 69 dX12_aboutNow_1 n_1_5 (by decide) ?_
              refine x_aload_n g 0 dX12_aboutNow_69 rfl rfl ?_
              obtain ⟨r3, hgr3, hf⟩ := obind hf
              refine x_callV (r := (RX12, TX12, 53)) g xl [] [] [.int r3] (c_X12_allHad hA hgr3) mf_X12_allHad im_X12_allHad se_X12_allHad ml_X12_258 rfl wm_0 (by decide) (by decide) rfl (Nat.le_of_ble_eq_true rfl) dX12_aboutNow_70 rfl rfl ?_
              cases hf
              exact x_iret g rfl ho dX12_aboutNow_73
            · refine sp hf (fun n_1_6 hf => ?_) (fun n_1_6 hf => ?_)
              · refine x_tin g 6 73 74 dX12_aboutNow_1 n_1_6 (by decide) ?_
                refine x_aload_n g 0 dX12_aboutNow_74 rfl rfl ?_
                refine x_get g fl_X12_188 wm_0 rfl dX12_aboutNow_75 ?_
                cases hf
                exact x_iret g rfl ho dX12_aboutNow_78
              · refine x_tout g 79 dX12_aboutNow_1 (by have e0 := tI n_1_0 (by decide : (0 : Int32).toInt = 0); have e1 := tI n_1_1 (by decide : (1 : Int32).toInt = 1); have e2 := tI n_1_2 (by decide : (2 : Int32).toInt = 2); have e3 := tI n_1_3 (by decide : (3 : Int32).toInt = 3); have e4 := tI n_1_4 (by decide : (4 : Int32).toInt = 4); have e5 := tI n_1_5 (by decide : (5 : Int32).toInt = 5); have e6 := tI n_1_6 (by decide : (6 : Int32).toInt = 6); omega) (by decide) ?_
                refine x_aload_n g 0 dX12_aboutNow_79 rfl rfl ?_
                obtain ⟨r4, hgr4, hf⟩ := obind hf
                refine x_callV (r := (RX12, TX12, 53)) g xl [] [] [.int r4] (c_X12_busiest hA hgr4) mf_X12_busiest im_X12_busiest se_X12_busiest ml_X12_261 rfl wm_0 (by decide) (by decide) rfl (Nat.le_of_ble_eq_true rfl) dX12_aboutNow_80 rfl rfl ?_
                cases hf
                exact x_iret g rfl ho dX12_aboutNow_83
/-! SlotChipModel.about(I)I -/
def f_X12_about (σ : St) (p1 : Int32) : Option Int32 :=
  (f_X12_within p1 0 7).bind fun r1 =>
  if r1 = 0 then
    some (-102)
  else
    ((f_X12_isChip σ).bind fun r2 =>
    if r2 = 0 then
      some (-103)
    else
      ((f_X12_aboutNow σ p1).bind fun r3 =>
      some r3))
set_option maxHeartbeats 4000000 in
set_option maxRecDepth 100000 in
theorem c_X12_about {l : Launch} {D : va_G} {cy : Nat → ClassId} {Ad : Nat → Nat} (hA : AdOK 37 Ad) {σ : St} {p1 : Int32} {o : Int32} (hf : f_X12_about σ p1 = some o) : CT l (wM cy Ad) D cy (AdA 37 Ad) yX12_about cX12_about 2 (some .int) 6 [.ref (Ad 0), .int p1] σ (σ, (some (.int o))) := by
  refine CT.of mf_X12_about (wM_D hA) (Nat.le_of_ble_eq_true rfl) ?_
  intro E xl g
  have ho : ((σ, (some (.int o))) : St × Option Value) = (σ, (some (.int o))) := rfl
  unfold f_X12_about at hf
  show XJ E (wM cy Ad σ) 0 [(0, .ref (Ad 0)), (1, .int p1)] []
  refine x_iload_n g 1 dX12_about_0 rfl rfl ?_
  refine x_iconst g 0 dX12_about_1 (by decide) ?_
  refine x_bipush g 7 dX12_about_2 (by decide) ?_
  obtain ⟨r1, hgr1, hf⟩ := obind hf
  refine x_callS g xl [.int p1, .int 0, .int 7] [] [.int r1] (c_X12_within hA hgr1) mf_X12_within sm_X12_within ml_X12_130 (by decide) (by decide) rfl (Nat.le_of_ble_eq_true rfl) dX12_about_4 rfl rfl ?_
  refine x_if_ne g 13 dX12_about_7 (by decide) hf (fun c7 hf => ?_) (fun c7 hf => ?_)
  · refine x_bipush g (-102) dX12_about_10 (by decide) ?_
    cases hf
    exact x_iret g rfl ho dX12_about_12
  · refine x_aload_n g 0 dX12_about_13 rfl rfl ?_
    obtain ⟨r2, hgr2, hf⟩ := obind hf
    refine x_callV (r := (RX12, TX12, 53)) g xl [] [] [.int r2] (c_X12_isChip hA hgr2) mf_X12_isChip im_X12_isChip se_X12_isChip ml_X12_264 rfl wm_0 (by decide) (by decide) rfl (Nat.le_of_ble_eq_true rfl) dX12_about_14 rfl rfl ?_
    refine x_if_eq g 28 dX12_about_17 (by decide) hf (fun c17 hf => ?_) (fun c17 hf => ?_)
    · refine x_bipush g (-103) dX12_about_28 (by decide) ?_
      cases hf
      exact x_iret g rfl ho dX12_about_30
    · refine x_aload_n g 0 dX12_about_20 rfl rfl ?_
      refine x_iload_n g 1 dX12_about_21 rfl rfl ?_
      obtain ⟨r3, hgr3, hf⟩ := obind hf
      refine x_callV (r := (RX12, TX12, 53)) g xl [.int p1] [] [.int r3] (c_X12_aboutNow hA hgr3) mf_X12_aboutNow im_X12_aboutNow se_X12_aboutNow ml_X12_267 rfl wm_0 (by decide) (by decide) rfl (Nat.le_of_ble_eq_true rfl) dX12_about_22 rfl rfl ?_
      refine x_goto g 30 dX12_about_25 (by decide) ?_
      cases hf
      exact x_iret g rfl ho dX12_about_30
/-! SlotChipModel.linkNow(II)I -/
def f_X12_linkNow (σ : St) (p1 : Int32) (p2 : Int32) : Option Int32 :=
  if p2 = 0 then
    ((f_X12_leadsTo (p1 / 6) (remI p1 6) (σ.1 0 0 0) (σ.1 0 0 1)).bind fun r1 =>
    some r1)
  else
    (if p2 = 1 then
      (chk (inb p1 54) (
        if (σ.1 5 0 (Int32.toNatClampNeg p1)) = 0 then
          some 0
        else
          some 1))
    else
      (if p2 = 2 then
        ((f_X12_hadOf σ p1).bind fun r2 =>
        some r2)
      else
        (chk (inb p1 54) (
          some (σ.1 6 0 (Int32.toNatClampNeg p1))))))
set_option maxHeartbeats 4000000 in
set_option maxRecDepth 100000 in
theorem c_X12_linkNow {l : Launch} {D : va_G} {cy : Nat → ClassId} {Ad : Nat → Nat} (hA : AdOK 37 Ad) {σ : St} {p1 : Int32} {p2 : Int32} {o : Int32} (hf : f_X12_linkNow σ p1 p2 = some o) : CT l (wM cy Ad) D cy (AdA 37 Ad) yX12_linkNow cX12_linkNow 3 (some .int) 4 [.ref (Ad 0), .int p1, .int p2] σ (σ, (some (.int o))) := by
  refine CT.of mf_X12_linkNow (wM_D hA) (Nat.le_of_ble_eq_true rfl) ?_
  intro E xl g
  have ho : ((σ, (some (.int o))) : St × Option Value) = (σ, (some (.int o))) := rfl
  unfold f_X12_linkNow at hf
  show XJ E (wM cy Ad σ) 0 [(0, .ref (Ad 0)), (1, .int p1), (2, .int p2)] []
  refine x_iload_n g 2 dX12_linkNow_0 rfl rfl ?_
  refine sp hf (fun n_1_0 hf => ?_) (fun n_1_0 hf => ?_)
  · refine x_tin g 0 27 28 dX12_linkNow_1 n_1_0 (by decide) ?_
    refine x_iload_n g 1 dX12_linkNow_28 rfl rfl ?_
    refine x_bipush g 6 dX12_linkNow_29 (by decide) ?_
    refine x_idiv g dX12_linkNow_31 (by decide) ?_
    refine x_iload_n g 1 dX12_linkNow_32 rfl rfl ?_
    refine x_bipush g 6 dX12_linkNow_33 (by decide) ?_
    refine x_irem g dX12_linkNow_35 (by decide) ?_
    refine x_aload_n g 0 dX12_linkNow_36 rfl rfl ?_
    refine x_get g fl_X12_119 wm_0 rfl dX12_linkNow_37 ?_
    refine x_aload_n g 0 dX12_linkNow_40 rfl rfl ?_
    refine x_get g fl_X12_123 wm_0 rfl dX12_linkNow_41 ?_
    obtain ⟨r1, hgr1, hf⟩ := obind hf
    refine x_callS g xl [.int (p1 / 6), .int (remI p1 6), .int (σ.1 0 0 0), .int (σ.1 0 0 1)] [] [.int r1] (c_X12_leadsTo hA hgr1) mf_X12_leadsTo sm_X12_leadsTo ml_X12_134 (by decide) (by decide) rfl (Nat.le_of_ble_eq_true rfl) dX12_linkNow_44 rfl rfl ?_
    cases hf
    exact x_iret g rfl ho dX12_linkNow_47
  · refine sp hf (fun n_1_1 hf => ?_) (fun n_1_1 hf => ?_)
    · refine x_tin g 1 47 48 dX12_linkNow_1 n_1_1 (by decide) ?_
      refine x_aload_n g 0 dX12_linkNow_48 rfl rfl ?_
      refine x_get g fl_X12_7 wm_0 rfl dX12_linkNow_49 ?_
      refine x_iload_n g 1 dX12_linkNow_52 rfl rfl ?_
      refine x_zald g wm_1 dX12_linkNow_53 hf (fun hf => ?_)
      refine x_if_eq g 61 dX12_linkNow_54 (by decide) hf (fun c54 hf => ?_) (fun c54 hf => ?_)
      · refine x_iconst g 0 dX12_linkNow_61 (by decide) ?_
        cases hf
        exact x_iret g rfl ho dX12_linkNow_62
      · refine x_iconst g 1 dX12_linkNow_57 (by decide) ?_
        refine x_goto g 62 dX12_linkNow_58 (by decide) ?_
        cases hf
        exact x_iret g rfl ho dX12_linkNow_62
    · refine sp hf (fun n_1_2 hf => ?_) (fun n_1_2 hf => ?_)
      · refine x_tin g 2 62 63 dX12_linkNow_1 n_1_2 (by decide) ?_
        refine x_aload_n g 0 dX12_linkNow_63 rfl rfl ?_
        refine x_iload_n g 1 dX12_linkNow_64 rfl rfl ?_
        obtain ⟨r2, hgr2, hf⟩ := obind hf
        refine x_callV (r := (RX12, TX12, 53)) g xl [.int p1] [] [.int r2] (c_X12_hadOf hA hgr2) mf_X12_hadOf im_X12_hadOf se_X12_hadOf ml_X12_249 rfl wm_0 (by decide) (by decide) rfl (Nat.le_of_ble_eq_true rfl) dX12_linkNow_65 rfl rfl ?_
        cases hf
        exact x_iret g rfl ho dX12_linkNow_68
      · refine x_tout g 69 dX12_linkNow_1 (by have e0 := tI n_1_0 (by decide : (0 : Int32).toInt = 0); have e1 := tI n_1_1 (by decide : (1 : Int32).toInt = 1); have e2 := tI n_1_2 (by decide : (2 : Int32).toInt = 2); omega) (by decide) ?_
        refine x_aload_n g 0 dX12_linkNow_69 rfl rfl ?_
        refine x_get g fl_X12_13 wm_0 rfl dX12_linkNow_70 ?_
        refine x_iload_n g 1 dX12_linkNow_73 rfl rfl ?_
        refine x_iald g wm_2 dX12_linkNow_74 hf (fun hf => ?_)
        cases hf
        exact x_iret g rfl ho dX12_linkNow_75
/-! SlotChipModel.link(II)I -/
def f_X12_link (σ : St) (p1 : Int32) (p2 : Int32) : Option Int32 :=
  (f_X12_isLink σ p1).bind fun r1 =>
  if r1 = 0 then
    some (-101)
  else
    ((f_X12_within p2 0 3).bind fun r2 =>
    if r2 = 0 then
      some (-102)
    else
      ((f_X12_linkNow σ p1 p2).bind fun r3 =>
      some r3))
set_option maxHeartbeats 4000000 in
set_option maxRecDepth 100000 in
theorem c_X12_link {l : Launch} {D : va_G} {cy : Nat → ClassId} {Ad : Nat → Nat} (hA : AdOK 37 Ad) {σ : St} {p1 : Int32} {p2 : Int32} {o : Int32} (hf : f_X12_link σ p1 p2 = some o) : CT l (wM cy Ad) D cy (AdA 37 Ad) yX12_link cX12_link 3 (some .int) 5 [.ref (Ad 0), .int p1, .int p2] σ (σ, (some (.int o))) := by
  refine CT.of mf_X12_link (wM_D hA) (Nat.le_of_ble_eq_true rfl) ?_
  intro E xl g
  have ho : ((σ, (some (.int o))) : St × Option Value) = (σ, (some (.int o))) := rfl
  unfold f_X12_link at hf
  show XJ E (wM cy Ad σ) 0 [(0, .ref (Ad 0)), (1, .int p1), (2, .int p2)] []
  refine x_aload_n g 0 dX12_link_0 rfl rfl ?_
  refine x_iload_n g 1 dX12_link_1 rfl rfl ?_
  obtain ⟨r1, hgr1, hf⟩ := obind hf
  refine x_callV (r := (RX12, TX12, 53)) g xl [.int p1] [] [.int r1] (c_X12_isLink hA hgr1) mf_X12_isLink im_X12_isLink se_X12_isLink ml_X12_246 rfl wm_0 (by decide) (by decide) rfl (Nat.le_of_ble_eq_true rfl) dX12_link_2 rfl rfl ?_
  refine x_if_ne g 13 dX12_link_5 (by decide) hf (fun c5 hf => ?_) (fun c5 hf => ?_)
  · refine x_bipush g (-101) dX12_link_8 (by decide) ?_
    refine x_goto g 33 dX12_link_10 (by decide) ?_
    cases hf
    exact x_iret g rfl ho dX12_link_33
  · refine x_iload_n g 2 dX12_link_13 rfl rfl ?_
    refine x_iconst g 0 dX12_link_14 (by decide) ?_
    refine x_iconst g 3 dX12_link_15 (by decide) ?_
    obtain ⟨r2, hgr2, hf⟩ := obind hf
    refine x_callS g xl [.int p2, .int 0, .int 3] [] [.int r2] (c_X12_within hA hgr2) mf_X12_within sm_X12_within ml_X12_130 (by decide) (by decide) rfl (Nat.le_of_ble_eq_true rfl) dX12_link_16 rfl rfl ?_
    refine x_if_eq g 31 dX12_link_19 (by decide) hf (fun c19 hf => ?_) (fun c19 hf => ?_)
    · refine x_bipush g (-102) dX12_link_31 (by decide) ?_
      cases hf
      exact x_iret g rfl ho dX12_link_33
    · refine x_aload_n g 0 dX12_link_22 rfl rfl ?_
      refine x_iload_n g 1 dX12_link_23 rfl rfl ?_
      refine x_iload_n g 2 dX12_link_24 rfl rfl ?_
      obtain ⟨r3, hgr3, hf⟩ := obind hf
      refine x_callV (r := (RX12, TX12, 53)) g xl [.int p1, .int p2] [] [.int r3] (c_X12_linkNow hA hgr3) mf_X12_linkNow im_X12_linkNow se_X12_linkNow ml_X12_270 rfl wm_0 (by decide) (by decide) rfl (Nat.le_of_ble_eq_true rfl) dX12_link_25 rfl rfl ?_
      refine x_goto g 33 dX12_link_28 (by decide) ?_
      cases hf
      exact x_iret g rfl ho dX12_link_33
/-! SlotChipModel.slot(II)I -/
def f_X12_slot (σ : St) (p1 : Int32) (p2 : Int32) : Option Int32 :=
  (f_X12_isLink σ p1).bind fun r1 =>
  if r1 = 0 then
    some (-101)
  else
    ((f_X12_within p2 0 ((σ.1 0 0 2) - 1)).bind fun r2 =>
    if r2 = 0 then
      some (-101)
    else
      ((f_X12_ownerOf σ p1 p2 (-1)).bind fun r3 =>
      some r3))
set_option maxHeartbeats 4000000 in
set_option maxRecDepth 100000 in
theorem c_X12_slot {l : Launch} {D : va_G} {cy : Nat → ClassId} {Ad : Nat → Nat} (hA : AdOK 37 Ad) {σ : St} {p1 : Int32} {p2 : Int32} {o : Int32} (hf : f_X12_slot σ p1 p2 = some o) : CT l (wM cy Ad) D cy (AdA 37 Ad) yX12_slot cX12_slot 3 (some .int) 3 [.ref (Ad 0), .int p1, .int p2] σ (σ, (some (.int o))) := by
  refine CT.of mf_X12_slot (wM_D hA) (Nat.le_of_ble_eq_true rfl) ?_
  intro E xl g
  have ho : ((σ, (some (.int o))) : St × Option Value) = (σ, (some (.int o))) := rfl
  unfold f_X12_slot at hf
  show XJ E (wM cy Ad σ) 0 [(0, .ref (Ad 0)), (1, .int p1), (2, .int p2)] []
  refine x_aload_n g 0 dX12_slot_0 rfl rfl ?_
  refine x_iload_n g 1 dX12_slot_1 rfl rfl ?_
  obtain ⟨r1, hgr1, hf⟩ := obind hf
  refine x_callV (r := (RX12, TX12, 53)) g xl [.int p1] [] [.int r1] (c_X12_isLink hA hgr1) mf_X12_isLink im_X12_isLink se_X12_isLink ml_X12_246 rfl wm_0 (by decide) (by decide) rfl (Nat.le_of_ble_eq_true rfl) dX12_slot_2 rfl rfl ?_
  refine x_if_eq g 32 dX12_slot_5 (by decide) hf (fun c5 hf => ?_) (fun c5 hf => ?_)
  · refine x_bipush g (-101) dX12_slot_32 (by decide) ?_
    cases hf
    exact x_iret g rfl ho dX12_slot_34
  · refine x_iload_n g 2 dX12_slot_8 rfl rfl ?_
    refine x_iconst g 0 dX12_slot_9 (by decide) ?_
    refine x_aload_n g 0 dX12_slot_10 rfl rfl ?_
    refine x_get g fl_X12_185 wm_0 rfl dX12_slot_11 ?_
    refine x_iconst g 1 dX12_slot_14 (by decide) ?_
    refine x_isub g dX12_slot_15 ?_
    obtain ⟨r2, hgr2, hf⟩ := obind hf
    refine x_callS g xl [.int p2, .int 0, .int ((σ.1 0 0 2) - 1)] [] [.int r2] (c_X12_within hA hgr2) mf_X12_within sm_X12_within ml_X12_130 (by decide) (by decide) rfl (Nat.le_of_ble_eq_true rfl) dX12_slot_16 rfl rfl ?_
    refine x_if_eq g 32 dX12_slot_19 (by decide) hf (fun c19 hf => ?_) (fun c19 hf => ?_)
    · refine x_bipush g (-101) dX12_slot_32 (by decide) ?_
      cases hf
      exact x_iret g rfl ho dX12_slot_34
    · refine x_aload_n g 0 dX12_slot_22 rfl rfl ?_
      refine x_iload_n g 1 dX12_slot_23 rfl rfl ?_
      refine x_iload_n g 2 dX12_slot_24 rfl rfl ?_
      refine x_iconst g (-1) dX12_slot_25 (by decide) ?_
      obtain ⟨r3, hgr3, hf⟩ := obind hf
      refine x_callV (r := (RX12, TX12, 53)) g xl [.int p1, .int p2, .int (-1)] [] [.int r3] (c_X12_ownerOf hA hgr3) mf_X12_ownerOf im_X12_ownerOf se_X12_ownerOf ml_X12_206 rfl wm_0 (by decide) (by decide) rfl (Nat.le_of_ble_eq_true rfl) dX12_slot_26 rfl rfl ?_
      refine x_goto g 34 dX12_slot_29 (by decide) ?_
      cases hf
      exact x_iret g rfl ho dX12_slot_34
/-! SlotChipModel.cut(IZ)I -/
def f_X12_cut (σ : St) (p1 : Int32) (p2 : Int32) : Option (St × Int32) :=
  (f_X12_isLink σ p1).bind fun r1 =>
  if r1 = 0 then
    some (σ, (-101))
  else
    (if (remI p1 6) < 2 then
      some (σ, (-101))
    else
      (chk (inb p1 54) (
        if (σ.1 5 0 (Int32.toNatClampNeg p1)) = p2 then
          some (σ, (-103))
        else
          ((f_X12_hadOf σ p1).bind fun r2 =>
          if 0 < r2 then
            some (σ, (-103))
          else
            (chk (inb p1 54) (
              bnd (si σ 5 0 (Int32.toNatClampNeg p1) (p2 &&& 1)) fun σ3 =>
              (f_X12_brokenMany σ3).bind fun r4 =>
              some (σ3, r4)))))))
set_option maxHeartbeats 4000000 in
set_option maxRecDepth 100000 in
theorem c_X12_cut {l : Launch} {D : va_G} {cy : Nat → ClassId} {Ad : Nat → Nat} (hA : AdOK 37 Ad) {σ : St} {p1 : Int32} {p2 : Int32} {o : (St × Int32)} (hf : f_X12_cut σ p1 p2 = some o) : CT l (wM cy Ad) D cy (AdA 37 Ad) yX12_cut cX12_cut 3 (some .int) 4 [.ref (Ad 0), .int p1, .int p2] σ (o.1, (some (.int o.2))) := by
  refine CT.of mf_X12_cut (wM_D hA) (Nat.le_of_ble_eq_true rfl) ?_
  intro E xl g
  have ho : ((o.1, (some (.int o.2))) : St × Option Value) = (o.1, (some (.int o.2))) := rfl
  unfold f_X12_cut at hf
  show XJ E (wM cy Ad σ) 0 [(0, .ref (Ad 0)), (1, .int p1), (2, .int p2)] []
  refine x_aload_n g 0 dX12_cut_0 rfl rfl ?_
  refine x_iload_n g 1 dX12_cut_1 rfl rfl ?_
  obtain ⟨r1, hgr1, hf⟩ := obind hf
  refine x_callV (r := (RX12, TX12, 53)) g xl [.int p1] [] [.int r1] (c_X12_isLink hA hgr1) mf_X12_isLink im_X12_isLink se_X12_isLink ml_X12_246 rfl wm_0 (by decide) (by decide) rfl (Nat.le_of_ble_eq_true rfl) dX12_cut_2 rfl rfl ?_
  refine x_if_eq g 16 dX12_cut_5 (by decide) hf (fun c5 hf => ?_) (fun c5 hf => ?_)
  · refine x_bipush g (-101) dX12_cut_16 (by decide) ?_
    cases hf
    exact x_iret g rfl ho dX12_cut_18
  · refine x_iload_n g 1 dX12_cut_8 rfl rfl ?_
    refine x_bipush g 6 dX12_cut_9 (by decide) ?_
    refine x_irem g dX12_cut_11 (by decide) ?_
    refine x_iconst g 2 dX12_cut_12 (by decide) ?_
    refine x_icmp_ge g 19 dX12_cut_13 (by decide) hf (fun c13 hf => ?_) (fun c13 hf => ?_)
    · refine x_bipush g (-101) dX12_cut_16 (by decide) ?_
      cases hf
      exact x_iret g rfl ho dX12_cut_18
    · refine x_aload_n g 0 dX12_cut_19 rfl rfl ?_
      refine x_get g fl_X12_7 wm_0 rfl dX12_cut_20 ?_
      refine x_iload_n g 1 dX12_cut_23 rfl rfl ?_
      refine x_zald g wm_1 dX12_cut_24 hf (fun hf => ?_)
      refine x_iload_n g 2 dX12_cut_25 rfl rfl ?_
      refine x_icmp_eq g 37 dX12_cut_26 (by decide) hf (fun c26 hf => ?_) (fun c26 hf => ?_)
      · refine x_bipush g (-103) dX12_cut_37 (by decide) ?_
        cases hf
        exact x_iret g rfl ho dX12_cut_39
      · refine x_aload_n g 0 dX12_cut_29 rfl rfl ?_
        refine x_iload_n g 1 dX12_cut_30 rfl rfl ?_
        obtain ⟨r2, hgr2, hf⟩ := obind hf
        refine x_callV (r := (RX12, TX12, 53)) g xl [.int p1] [] [.int r2] (c_X12_hadOf hA hgr2) mf_X12_hadOf im_X12_hadOf se_X12_hadOf ml_X12_249 rfl wm_0 (by decide) (by decide) rfl (Nat.le_of_ble_eq_true rfl) dX12_cut_31 rfl rfl ?_
        refine x_if_le g 40 dX12_cut_34 (by decide) hf (fun c34 hf => ?_) (fun c34 hf => ?_)
        · refine x_bipush g (-103) dX12_cut_37 (by decide) ?_
          cases hf
          exact x_iret g rfl ho dX12_cut_39
        · refine x_aload_n g 0 dX12_cut_40 rfl rfl ?_
          refine x_get g fl_X12_7 wm_0 rfl dX12_cut_41 ?_
          refine x_iload_n g 1 dX12_cut_44 rfl rfl ?_
          refine x_iload_n g 2 dX12_cut_45 rfl rfl ?_
          refine x_zastB g (p2 &&& 1) rfl wm_1 (sm_1 _ _) dX12_cut_46 hf (fun σ3 hf => ?_)
          refine x_aload_n g 0 dX12_cut_47 rfl rfl ?_
          obtain ⟨r4, hgr4, hf⟩ := obind hf
          refine x_callV (r := (RX12, TX12, 53)) g xl [] [] [.int r4] (c_X12_brokenMany hA hgr4) mf_X12_brokenMany im_X12_brokenMany se_X12_brokenMany ml_X12_255 rfl wm_0 (by decide) (by decide) rfl (Nat.le_of_ble_eq_true rfl) dX12_cut_48 rfl rfl ?_
          cases hf
          exact x_iret g rfl ho dX12_cut_51
/-! SlotChipModel.isRouter(I)Z -/
def f_X12_isRouter (σ : St) (p1 : Int32) : Option Int32 :=
  (f_X12_routers σ).bind fun r1 =>
  (f_X12_within p1 0 (r1 - 1)).bind fun r2 =>
  chk (isZ r2) (some r2)
set_option maxHeartbeats 4000000 in
set_option maxRecDepth 100000 in
theorem c_X12_isRouter {l : Launch} {D : va_G} {cy : Nat → ClassId} {Ad : Nat → Nat} (hA : AdOK 37 Ad) {σ : St} {p1 : Int32} {o : Int32} (hf : f_X12_isRouter σ p1 = some o) : CT l (wM cy Ad) D cy (AdA 37 Ad) yX12_isRouter cX12_isRouter 2 (some .boolean) 1 [.ref (Ad 0), .int p1] σ (σ, (some (.int o))) := by
  refine CT.of mf_X12_isRouter (wM_D hA) (Nat.le_of_ble_eq_true rfl) ?_
  intro E xl g
  have ho : ((σ, (some (.int o))) : St × Option Value) = (σ, (some (.int o))) := rfl
  unfold f_X12_isRouter at hf
  show XJ E (wM cy Ad σ) 0 [(0, .ref (Ad 0)), (1, .int p1)] []
  refine x_iload_n g 1 dX12_isRouter_0 rfl rfl ?_
  refine x_iconst g 0 dX12_isRouter_1 (by decide) ?_
  refine x_aload_n g 0 dX12_isRouter_2 rfl rfl ?_
  obtain ⟨r1, hgr1, hf⟩ := obind hf
  refine x_callV (r := (RX12, TX12, 53)) g xl [] [.int 0, .int p1] [.int r1, .int 0, .int p1] (c_X12_routers hA hgr1) mf_X12_routers im_X12_routers se_X12_routers ml_X12_126 rfl wm_0 (by decide) (by decide) rfl (Nat.le_of_ble_eq_true rfl) dX12_isRouter_3 rfl rfl ?_
  refine x_iconst g 1 dX12_isRouter_6 (by decide) ?_
  refine x_isub g dX12_isRouter_7 ?_
  obtain ⟨r2, hgr2, hf⟩ := obind hf
  refine x_callS g xl [.int p1, .int 0, .int (r1 - 1)] [] [.int r2] (c_X12_within hA hgr2) mf_X12_within sm_X12_within ml_X12_130 (by decide) (by decide) rfl (Nat.le_of_ble_eq_true rfl) dX12_isRouter_8 rfl rfl ?_
  have hb := isZ_and (chk_some hf).1
  replace hf := (chk_some hf).2
  cases hf
  exact x_zret g rfl hb ho dX12_isRouter_11
/-! SlotChipModel.leastFree()I -/
def f_X12_leastFree_L2b (σ : St) (K2 : Int32 → Option Int32) (v1 : Int32) : Option Int32 :=
  if v1 < 8 then
    (chk (inb v1 8) (
      if (σ.1 9 0 (Int32.toNatClampNeg v1)) = 0 then
        some v1
      else
        K2 (v1 + 1)))
  else
    some v1
def f_X12_leastFree_L2 (σ : St) : Nat → Int32 → Option Int32
  | 0 => fun _ => none
  | n + 1 => f_X12_leastFree_L2b σ (f_X12_leastFree_L2 σ n)
def f_X12_leastFree (σ : St) : Option Int32 :=
  f_X12_leastFree_L2 σ FU 0
set_option maxHeartbeats 4000000 in
set_option maxRecDepth 100000 in
theorem l_X12_leastFree_L2 {E : EV} {l : Launch} {D : va_G} {cy : Nat → ClassId} {Ad : Nat → Nat} {out : St × Option Value} {o : Int32} (hA : AdOK 37 Ad) (xl : XL E l D (AdA 37 Ad)) (g : XG E (wM cy Ad) cy cX12_leastFree RX12 2 0 (some .int) out) (σ : St) (ho : out = (σ, (some (.int o)))) : ∀ (n : Nat) (v1 : Int32), f_X12_leastFree_L2 σ n v1 = some o → XJ E (wM cy Ad σ) 2 [(0, .ref (Ad 0)), (1, .int v1)] [] := by
  intro n
  induction n with
  | zero => intro _ hf; cases hf
  | succ n ih2 =>
    intro v1 hf
    replace hf : f_X12_leastFree_L2b σ (f_X12_leastFree_L2 σ n) v1 = some o := hf
    unfold f_X12_leastFree_L2b at hf
    refine x_iload_n g 1 dX12_leastFree_2 rfl rfl ?_
    refine x_bipush g 8 dX12_leastFree_3 (by decide) ?_
    refine x_icmp_ge g 23 dX12_leastFree_5 (by decide) hf (fun c5 hf => ?_) (fun c5 hf => ?_)
    · refine x_aload_n g 0 dX12_leastFree_8 rfl rfl ?_
      refine x_get g fl_X12_20 wm_0 rfl dX12_leastFree_9 ?_
      refine x_iload_n g 1 dX12_leastFree_12 rfl rfl ?_
      refine x_zald g wm_4 dX12_leastFree_13 hf (fun hf => ?_)
      refine x_if_eq g 23 dX12_leastFree_14 (by decide) hf (fun c14 hf => ?_) (fun c14 hf => ?_)
      · refine x_iload_n g 1 dX12_leastFree_23 rfl rfl ?_
        cases hf
        exact x_iret g rfl ho dX12_leastFree_24
      · refine x_iinc g 1 (v1 + 1) (lv' := [(1, .int (v1 + 1)), (0, .ref (Ad 0))]) dX12_leastFree_17 rfl (by rfl) (by decide) rfl ?_
        refine x_goto g 2 dX12_leastFree_20 (by decide) ?_
        exact x_sub [1, 0] rfl (ih2 _ hf)
    · refine x_iload_n g 1 dX12_leastFree_23 rfl rfl ?_
      cases hf
      exact x_iret g rfl ho dX12_leastFree_24
set_option maxHeartbeats 4000000 in
set_option maxRecDepth 100000 in
theorem c_X12_leastFree {l : Launch} {D : va_G} {cy : Nat → ClassId} {Ad : Nat → Nat} (hA : AdOK 37 Ad) {σ : St} {o : Int32} (hf : f_X12_leastFree σ = some o) : CT l (wM cy Ad) D cy (AdA 37 Ad) yX12_leastFree cX12_leastFree 2 (some .int) 0 [.ref (Ad 0)] σ (σ, (some (.int o))) := by
  refine CT.of mf_X12_leastFree (wM_D hA) (Nat.le_of_ble_eq_true rfl) ?_
  intro E xl g
  have ho : ((σ, (some (.int o))) : St × Option Value) = (σ, (some (.int o))) := rfl
  unfold f_X12_leastFree at hf
  show XJ E (wM cy Ad σ) 0 [(0, .ref (Ad 0))] []
  refine x_iconst g 0 dX12_leastFree_0 (by decide) ?_
  refine x_istore_n (lv' := [(1, .int 0), (0, .ref (Ad 0))]) g dX12_leastFree_1 rfl (by decide) rfl ?_
  exact x_sub [1, 0] rfl (l_X12_leastFree_L2 hA xl g _ ho FU _ hf)
/-! SlotChipModel.ways(I)I -/
def f_X12_ways_L4b (v0 : Int32) (K4 : Int32 → Int32 → Option Int32) (v1 : Int32) (v2 : Int32) : Option Int32 :=
  if v2 < v0 then
    K4 (v1 * 4) (v2 + 1)
  else
    some v1
def f_X12_ways_L4 (v0 : Int32) : Nat → Int32 → Int32 → Option Int32
  | 0 => fun _ _ => none
  | n + 1 => f_X12_ways_L4b v0 (f_X12_ways_L4 v0 n)
def f_X12_ways (p1 : Int32) : Option Int32 :=
  f_X12_ways_L4 p1 FU 1 0
set_option maxHeartbeats 4000000 in
set_option maxRecDepth 100000 in
theorem l_X12_ways_L4 {E : EV} {l : Launch} {D : va_G} {cy : Nat → ClassId} {Ad : Nat → Nat} {out : St × Option Value} {o : Int32} (hA : AdOK 37 Ad) (xl : XL E l D (AdA 37 Ad)) (g : XG E (wM cy Ad) cy cX12_ways RX12 3 0 (some .int) out) (v0 : Int32) (σ : St) (ho : out = (σ, (some (.int o)))) : ∀ (n : Nat) (v1 : Int32) (v2 : Int32), f_X12_ways_L4 v0 n v1 v2 = some o → XJ E (wM cy Ad σ) 4 [(0, .int v0), (1, .int v1), (2, .int v2)] [] := by
  intro n
  induction n with
  | zero => intro _ _ hf; cases hf
  | succ n ih4 =>
    intro v1 v2 hf
    replace hf : f_X12_ways_L4b v0 (f_X12_ways_L4 v0 n) v1 v2 = some o := hf
    unfold f_X12_ways_L4b at hf
    refine x_iload_n g 2 dX12_ways_4 rfl rfl ?_
    refine x_iload_n g 0 dX12_ways_5 rfl rfl ?_
    refine x_icmp_ge g 19 dX12_ways_6 (by decide) hf (fun c6 hf => ?_) (fun c6 hf => ?_)
    · refine x_iload_n g 1 dX12_ways_9 rfl rfl ?_
      refine x_iconst g 4 dX12_ways_10 (by decide) ?_
      refine x_imul g dX12_ways_11 ?_
      refine x_istore_n (lv' := [(1, .int (v1 * 4)), (0, .int v0), (2, .int v2)]) g dX12_ways_12 rfl (by decide) rfl ?_
      refine x_iinc g 2 (v2 + 1) (lv' := [(2, .int (v2 + 1)), (1, .int (v1 * 4)), (0, .int v0)]) dX12_ways_13 rfl (by rfl) (by decide) rfl ?_
      refine x_goto g 4 dX12_ways_16 (by decide) ?_
      exact x_sub [2, 1, 0] rfl (ih4 _ _ hf)
    · refine x_iload_n g 1 dX12_ways_19 rfl rfl ?_
      cases hf
      exact x_iret g rfl ho dX12_ways_20
set_option maxHeartbeats 4000000 in
set_option maxRecDepth 100000 in
theorem c_X12_ways {l : Launch} {D : va_G} {cy : Nat → ClassId} {Ad : Nat → Nat} (hA : AdOK 37 Ad) {σ : St} {p1 : Int32} {o : Int32} (hf : f_X12_ways p1 = some o) : CT l (wM cy Ad) D cy (AdA 37 Ad) yX12_ways cX12_ways 3 (some .int) 0 [.int p1] σ (σ, (some (.int o))) := by
  refine CT.of mf_X12_ways (wM_D hA) (Nat.le_of_ble_eq_true rfl) ?_
  intro E xl g
  have ho : ((σ, (some (.int o))) : St × Option Value) = (σ, (some (.int o))) := rfl
  unfold f_X12_ways at hf
  show XJ E (wM cy Ad σ) 0 [(0, .int p1)] []
  refine x_iconst g 1 dX12_ways_0 (by decide) ?_
  refine x_istore_n (lv' := [(1, .int 1), (0, .int p1)]) g dX12_ways_1 rfl (by decide) rfl ?_
  refine x_iconst g 0 dX12_ways_2 (by decide) ?_
  refine x_istore_n (lv' := [(2, .int 0), (1, .int 1), (0, .int p1)]) g dX12_ways_3 rfl (by decide) rfl ?_
  exact x_sub [2, 1, 0] rfl (l_X12_ways_L4 hA xl g _ _ ho FU _ _ hf)
/-! SlotChipModel.isWay(IIII)Z -/
def f_X12_isWay_L53b (v2 : Int32) (v3 : Int32) (v4 : Int32) (K53 : St → Int32 → Int32 → Int32 → Option (St × Int32)) (σ : St) (v5 : Int32) (v6 : Int32) (v7 : Int32) : Option (St × Int32) :=
  if v7 < v3 then
    (if v6 = 0 then
      (bnd (si σ 0 0 45 v3) fun σ4 =>
      chk (inb (v3 + 1) 8) (
        bnd (si σ4 46 0 (Int32.toNatClampNeg (v3 + 1)) ((6 * v2) + 1)) fun σ5 =>
        if v6 = 0 then
          some (σ5, 0)
        else
          (if v5 = v2 then
            some (σ5, 1)
          else
            some (σ5, 0))))
    else
      ((f_X12_ways ((v3 - 1) - v7)).bind fun r6 =>
      chk (¬ r6 = 0) (
        (f_X12_leadsTo v5 (2 + (remI (v4 / r6) 4)) (σ.1 0 0 0) (σ.1 0 0 1)).bind fun r7 =>
        if r7 = (-1) then
          (chk (inb (v7 + 1) 8) (
            bnd (si σ 46 0 (Int32.toNatClampNeg (v7 + 1)) ((6 * v5) + (2 + (remI (v4 / r6) 4)))) fun σ8 =>
            chk (inb v5 9) (
              bnd (si σ8 47 0 (Int32.toNatClampNeg v5) 1) fun σ9 =>
              K53 σ9 v5 0 (v7 + 1))))
        else
          (chk (inb ((6 * v5) + (2 + (remI (v4 / r6) 4))) 54) (
            if (σ.1 5 0 (Int32.toNatClampNeg ((6 * v5) + (2 + (remI (v4 / r6) 4))))) = 0 then
              (chk (inb r7 9) (
                if (σ.1 47 0 (Int32.toNatClampNeg r7)) = 0 then
                  (chk (inb (v7 + 1) 8) (
                    bnd (si σ 46 0 (Int32.toNatClampNeg (v7 + 1)) ((6 * v5) + (2 + (remI (v4 / r6) 4)))) fun σ10 =>
                    chk (inb r7 9) (
                      bnd (si σ10 47 0 (Int32.toNatClampNeg r7) 1) fun σ11 =>
                      K53 σ11 r7 1 (v7 + 1))))
                else
                  (chk (inb (v7 + 1) 8) (
                    bnd (si σ 46 0 (Int32.toNatClampNeg (v7 + 1)) ((6 * v5) + (2 + (remI (v4 / r6) 4)))) fun σ12 =>
                    chk (inb v5 9) (
                      bnd (si σ12 47 0 (Int32.toNatClampNeg v5) 1) fun σ13 =>
                      K53 σ13 v5 0 (v7 + 1))))))
            else
              (chk (inb (v7 + 1) 8) (
                bnd (si σ 46 0 (Int32.toNatClampNeg (v7 + 1)) ((6 * v5) + (2 + (remI (v4 / r6) 4)))) fun σ14 =>
                chk (inb v5 9) (
                  bnd (si σ14 47 0 (Int32.toNatClampNeg v5) 1) fun σ15 =>
                  K53 σ15 v5 0 (v7 + 1)))))))))
  else
    (bnd (si σ 0 0 45 v3) fun σ16 =>
    chk (inb (v3 + 1) 8) (
      bnd (si σ16 46 0 (Int32.toNatClampNeg (v3 + 1)) ((6 * v2) + 1)) fun σ17 =>
      if v6 = 0 then
        some (σ17, 0)
      else
        (if v5 = v2 then
          some (σ17, 1)
        else
          some (σ17, 0))))
def f_X12_isWay_L53 (v2 : Int32) (v3 : Int32) (v4 : Int32) : Nat → St → Int32 → Int32 → Int32 → Option (St × Int32)
  | 0 => fun _ _ _ _ => none
  | n + 1 => f_X12_isWay_L53b v2 v3 v4 (f_X12_isWay_L53 v2 v3 v4 n)
def f_X12_isWay_L3b (v1 : Int32) (v2 : Int32) (v3 : Int32) (v4 : Int32) (K3 : St → Int32 → Option (St × Int32)) (σ : St) (v5 : Int32) : Option (St × Int32) :=
  if v5 < 9 then
    (if v5 = v1 then
      (chk (inb v5 9) (
        bnd (si σ 47 0 (Int32.toNatClampNeg v5) 1) fun σ1 =>
        K3 σ1 (v5 + 1)))
    else
      (chk (inb v5 9) (
        bnd (si σ 47 0 (Int32.toNatClampNeg v5) 0) fun σ2 =>
        K3 σ2 (v5 + 1))))
  else
    (bnd (si σ 46 0 0 (6 * v1)) fun σ3 =>
    f_X12_isWay_L53 v2 v3 v4 FU σ3 v1 1 0)
def f_X12_isWay_L3 (v1 : Int32) (v2 : Int32) (v3 : Int32) (v4 : Int32) : Nat → St → Int32 → Option (St × Int32)
  | 0 => fun _ _ => none
  | n + 1 => f_X12_isWay_L3b v1 v2 v3 v4 (f_X12_isWay_L3 v1 v2 v3 v4 n)
def f_X12_isWay (σ : St) (p1 : Int32) (p2 : Int32) (p3 : Int32) (p4 : Int32) : Option (St × Int32) :=
  f_X12_isWay_L3 p1 p2 p3 p4 FU σ 0
set_option maxHeartbeats 4000000 in
set_option maxRecDepth 100000 in
theorem l_X12_isWay_L53 {E : EV} {l : Launch} {D : va_G} {cy : Nat → ClassId} {Ad : Nat → Nat} {out : St × Option Value} {o : (St × Int32)} (hA : AdOK 37 Ad) (xl : XL E l D (AdA 37 Ad)) (g : XG E (wM cy Ad) cy cX12_isWay RX12 10 1 (some .boolean) out) (v2 : Int32) (v3 : Int32) (v4 : Int32) (ho : out = (o.1, (some (.int o.2)))) : ∀ (n : Nat) (σ : St) (v5 : Int32) (v6 : Int32) (v7 : Int32), f_X12_isWay_L53 v2 v3 v4 n σ v5 v6 v7 = some o → XJ E (wM cy Ad σ) 53 [(0, .ref (Ad 0)), (2, .int v2), (3, .int v3), (4, .int v4), (5, .int v5), (6, .int v6), (7, .int v7)] [] := by
  intro n
  induction n with
  | zero => intro _ _ _ _ hf; cases hf
  | succ n ih53 =>
    intro σ v5 v6 v7 hf
    replace hf : f_X12_isWay_L53b v2 v3 v4 (f_X12_isWay_L53 v2 v3 v4 n) σ v5 v6 v7 = some o := hf
    unfold f_X12_isWay_L53b at hf
    refine x_iload g 6 dX12_isWay_53 rfl ?_
    refine x_iload_n g 2 dX12_isWay_55 rfl rfl ?_
    refine x_icmp_ge g 183 dX12_isWay_56 (by decide) hf (fun c56 hf => ?_) (fun c56 hf => ?_)
    · refine x_iload g 5 dX12_isWay_59 rfl ?_
      refine x_if_eq g 183 dX12_isWay_61 (by decide) hf (fun c61 hf => ?_) (fun c61 hf => ?_)
      · refine x_aload_n g 0 dX12_isWay_183 rfl rfl ?_
        refine x_iload_n g 2 dX12_isWay_184 rfl rfl ?_
        refine x_putB g tyX12 fl_X12_213 tyX12_ok nmX12 wm_0 rfl rfl rfl (Nat.le_of_ble_eq_true rfl) (sm_0_45 _) dX12_isWay_185 hf (fun σ4 hf => ?_)
        refine x_aload_n g 0 dX12_isWay_188 rfl rfl ?_
        refine x_get g fl_X12_107 wm_0 rfl dX12_isWay_189 ?_
        refine x_iload_n g 2 dX12_isWay_192 rfl rfl ?_
        refine x_iconst g 1 dX12_isWay_193 (by decide) ?_
        refine x_iadd g dX12_isWay_194 ?_
        refine x_bipush g 6 dX12_isWay_195 (by decide) ?_
        refine x_iload_n g 1 dX12_isWay_197 rfl rfl ?_
        refine x_imul g dX12_isWay_198 ?_
        refine x_iconst g 1 dX12_isWay_199 (by decide) ?_
        refine x_iadd g dX12_isWay_200 ?_
        refine x_iastB g wm_33 (sm_33 _ _) dX12_isWay_201 hf (fun σ5 hf => ?_)
        refine x_iload g 5 dX12_isWay_202 rfl ?_
        refine x_if_eq g 217 dX12_isWay_204 (by decide) hf (fun c204 hf => ?_) (fun c204 hf => ?_)
        · refine x_iconst g 0 dX12_isWay_217 (by decide) ?_
          cases hf
          exact x_zret g rfl (by decide) ho dX12_isWay_218
        · refine x_iload g 4 dX12_isWay_207 rfl ?_
          refine x_iload_n g 1 dX12_isWay_209 rfl rfl ?_
          refine x_icmp_ne g 217 dX12_isWay_210 (by decide) hf (fun c210 hf => ?_) (fun c210 hf => ?_)
          · refine x_iconst g 1 dX12_isWay_213 (by decide) ?_
            refine x_goto g 218 dX12_isWay_214 (by decide) ?_
            cases hf
            exact x_zret g rfl (by decide) ho dX12_isWay_218
          · refine x_iconst g 0 dX12_isWay_217 (by decide) ?_
            cases hf
            exact x_zret g rfl (by decide) ho dX12_isWay_218
      · refine x_iconst g 2 dX12_isWay_64 (by decide) ?_
        refine x_iload g 3 dX12_isWay_65 rfl ?_
        refine x_iload_n g 2 dX12_isWay_67 rfl rfl ?_
        refine x_iconst g 1 dX12_isWay_68 (by decide) ?_
        refine x_isub g dX12_isWay_69 ?_
        refine x_iload g 6 dX12_isWay_70 rfl ?_
        refine x_isub g dX12_isWay_72 ?_
        obtain ⟨r6, hgr6, hf⟩ := obind hf
        refine x_callS g xl [.int ((v3 - 1) - v7)] [.int v4, .int 2] [.int r6, .int v4, .int 2] (c_X12_ways hA hgr6) mf_X12_ways sm_X12_ways ml_X12_210 (by decide) (by decide) rfl (Nat.le_of_ble_eq_true rfl) dX12_isWay_73 rfl rfl ?_
        have hz := (chk_some hf).1
        replace hf := (chk_some hf).2
        refine x_idiv g dX12_isWay_76 hz ?_
        refine x_iconst g 4 dX12_isWay_77 (by decide) ?_
        refine x_irem g dX12_isWay_78 (by decide) ?_
        refine x_iadd g dX12_isWay_79 ?_
        refine x_istore (lv' := [(8, .int (2 + (remI (v4 / r6) 4))), (0, .ref (Ad 0)), (2, .int v2), (3, .int v3), (4, .int v4), (5, .int v5), (6, .int v6), (7, .int v7)]) g dX12_isWay_80 (by decide) rfl ?_
        refine x_iload g 5 dX12_isWay_82 rfl ?_
        refine x_iload g 0 dX12_isWay_84 rfl ?_
        refine x_aload_n g 1 dX12_isWay_86 rfl rfl ?_
        refine x_get g fl_X12_119 wm_0 rfl dX12_isWay_87 ?_
        refine x_aload_n g 1 dX12_isWay_90 rfl rfl ?_
        refine x_get g fl_X12_123 wm_0 rfl dX12_isWay_91 ?_
        obtain ⟨r7, hgr7, hf⟩ := obind hf
        refine x_callS g xl [.int v5, .int (2 + (remI (v4 / r6) 4)), .int (σ.1 0 0 0), .int (σ.1 0 0 1)] [] [.int r7] (c_X12_leadsTo hA hgr7) mf_X12_leadsTo sm_X12_leadsTo ml_X12_134 (by decide) (by decide) rfl (Nat.le_of_ble_eq_true rfl) dX12_isWay_94 rfl rfl ?_
        refine x_istore (lv' := [(9, .int r7), (8, .int (2 + (remI (v4 / r6) 4))), (0, .ref (Ad 0)), (2, .int v2), (3, .int v3), (4, .int v4), (5, .int v5), (6, .int v6), (7, .int v7)]) g dX12_isWay_97 (by decide) rfl ?_
        refine x_iload g 0 dX12_isWay_99 rfl ?_
        refine x_iconst g (-1) dX12_isWay_101 (by decide) ?_
        refine x_icmp_eq g 135 dX12_isWay_102 (by decide) hf (fun c102 hf => ?_) (fun c102 hf => ?_)
        · refine x_iconst g 0 dX12_isWay_135 (by decide) ?_
          refine x_istore (lv' := [(6, .int 0), (9, .int r7), (8, .int (2 + (remI (v4 / r6) 4))), (0, .ref (Ad 0)), (2, .int v2), (3, .int v3), (4, .int v4), (5, .int v5), (7, .int v7)]) g dX12_isWay_136 (by decide) rfl ?_
          refine x_aload_n g 3 dX12_isWay_138 rfl rfl ?_
          refine x_get g fl_X12_107 wm_0 rfl dX12_isWay_139 ?_
          refine x_iload g 8 dX12_isWay_142 rfl ?_
          refine x_iconst g 1 dX12_isWay_144 (by decide) ?_
          refine x_iadd g dX12_isWay_145 ?_
          refine x_bipush g 6 dX12_isWay_146 (by decide) ?_
          refine x_iload g 7 dX12_isWay_148 rfl ?_
          refine x_imul g dX12_isWay_150 ?_
          refine x_iload g 2 dX12_isWay_151 rfl ?_
          refine x_iadd g dX12_isWay_153 ?_
          refine x_iastB g wm_33 (sm_33 _ _) dX12_isWay_154 hf (fun σ8 hf => ?_)
          refine x_iload g 0 dX12_isWay_155 rfl ?_
          refine x_if_eq_t g 165 dX12_isWay_157 (by decide) (by decide) ?_
          refine x_iload g 7 dX12_isWay_165 rfl ?_
          refine x_istore (lv' := [(5, .int v5), (6, .int 0), (9, .int r7), (8, .int (2 + (remI (v4 / r6) 4))), (0, .ref (Ad 0)), (2, .int v2), (3, .int v3), (4, .int v4), (7, .int v7)]) g dX12_isWay_167 (by decide) rfl ?_
          refine x_aload_n g 4 dX12_isWay_169 rfl rfl ?_
          refine x_get g fl_X12_110 wm_0 rfl dX12_isWay_170 ?_
          refine x_iload g 0 dX12_isWay_173 rfl ?_
          refine x_iconst g 1 dX12_isWay_175 (by decide) ?_
          refine x_zastB g 1 rfl wm_34 (sm_34 _ _) dX12_isWay_176 hf (fun σ9 hf => ?_)
          refine x_iinc g 8 (v7 + 1) (lv' := [(7, .int (v7 + 1)), (5, .int v5), (6, .int 0), (9, .int r7), (8, .int (2 + (remI (v4 / r6) 4))), (0, .ref (Ad 0)), (2, .int v2), (3, .int v3), (4, .int v4)]) dX12_isWay_177 rfl (by rfl) (by decide) rfl ?_
          refine x_goto g 53 dX12_isWay_180 (by decide) ?_
          exact x_sub [5, 6, 7, 8, 1, 2, 0] rfl (ih53 _ _ _ _ hf)
        · refine x_aload_n g 2 dX12_isWay_105 rfl rfl ?_
          refine x_get g fl_X12_7 wm_0 rfl dX12_isWay_106 ?_
          refine x_bipush g 6 dX12_isWay_109 (by decide) ?_
          refine x_iload g 6 dX12_isWay_111 rfl ?_
          refine x_imul g dX12_isWay_113 ?_
          refine x_iload g 1 dX12_isWay_114 rfl ?_
          refine x_iadd g dX12_isWay_116 ?_
          refine x_zald g wm_1 dX12_isWay_117 hf (fun hf => ?_)
          refine x_if_ne g 135 dX12_isWay_118 (by decide) hf (fun c118 hf => ?_) (fun c118 hf => ?_)
          · refine x_aload_n g 2 dX12_isWay_121 rfl rfl ?_
            refine x_get g fl_X12_110 wm_0 rfl dX12_isWay_122 ?_
            refine x_iload g 0 dX12_isWay_125 rfl ?_
            refine x_zald g wm_34 dX12_isWay_127 hf (fun hf => ?_)
            refine x_if_ne g 135 dX12_isWay_128 (by decide) hf (fun c128 hf => ?_) (fun c128 hf => ?_)
            · refine x_iconst g 1 dX12_isWay_131 (by decide) ?_
              refine x_goto g 136 dX12_isWay_132 (by decide) ?_
              refine x_istore (lv' := [(6, .int 1), (9, .int r7), (8, .int (2 + (remI (v4 / r6) 4))), (0, .ref (Ad 0)), (2, .int v2), (3, .int v3), (4, .int v4), (5, .int v5), (7, .int v7)]) g dX12_isWay_136 (by decide) rfl ?_
              refine x_aload_n g 3 dX12_isWay_138 rfl rfl ?_
              refine x_get g fl_X12_107 wm_0 rfl dX12_isWay_139 ?_
              refine x_iload g 8 dX12_isWay_142 rfl ?_
              refine x_iconst g 1 dX12_isWay_144 (by decide) ?_
              refine x_iadd g dX12_isWay_145 ?_
              refine x_bipush g 6 dX12_isWay_146 (by decide) ?_
              refine x_iload g 7 dX12_isWay_148 rfl ?_
              refine x_imul g dX12_isWay_150 ?_
              refine x_iload g 2 dX12_isWay_151 rfl ?_
              refine x_iadd g dX12_isWay_153 ?_
              refine x_iastB g wm_33 (sm_33 _ _) dX12_isWay_154 hf (fun σ10 hf => ?_)
              refine x_iload g 0 dX12_isWay_155 rfl ?_
              refine x_if_eq_f g 165 dX12_isWay_157 (by decide) (by decide) ?_
              refine x_iload g 1 dX12_isWay_160 rfl ?_
              refine x_goto g 167 dX12_isWay_162 (by decide) ?_
              refine x_istore (lv' := [(5, .int r7), (6, .int 1), (9, .int r7), (8, .int (2 + (remI (v4 / r6) 4))), (0, .ref (Ad 0)), (2, .int v2), (3, .int v3), (4, .int v4), (7, .int v7)]) g dX12_isWay_167 (by decide) rfl ?_
              refine x_aload_n g 4 dX12_isWay_169 rfl rfl ?_
              refine x_get g fl_X12_110 wm_0 rfl dX12_isWay_170 ?_
              refine x_iload g 0 dX12_isWay_173 rfl ?_
              refine x_iconst g 1 dX12_isWay_175 (by decide) ?_
              refine x_zastB g 1 rfl wm_34 (sm_34 _ _) dX12_isWay_176 hf (fun σ11 hf => ?_)
              refine x_iinc g 8 (v7 + 1) (lv' := [(7, .int (v7 + 1)), (5, .int r7), (6, .int 1), (9, .int r7), (8, .int (2 + (remI (v4 / r6) 4))), (0, .ref (Ad 0)), (2, .int v2), (3, .int v3), (4, .int v4)]) dX12_isWay_177 rfl (by rfl) (by decide) rfl ?_
              refine x_goto g 53 dX12_isWay_180 (by decide) ?_
              exact x_sub [5, 6, 7, 8, 1, 2, 0] rfl (ih53 _ _ _ _ hf)
            · refine x_iconst g 0 dX12_isWay_135 (by decide) ?_
              refine x_istore (lv' := [(6, .int 0), (9, .int r7), (8, .int (2 + (remI (v4 / r6) 4))), (0, .ref (Ad 0)), (2, .int v2), (3, .int v3), (4, .int v4), (5, .int v5), (7, .int v7)]) g dX12_isWay_136 (by decide) rfl ?_
              refine x_aload_n g 3 dX12_isWay_138 rfl rfl ?_
              refine x_get g fl_X12_107 wm_0 rfl dX12_isWay_139 ?_
              refine x_iload g 8 dX12_isWay_142 rfl ?_
              refine x_iconst g 1 dX12_isWay_144 (by decide) ?_
              refine x_iadd g dX12_isWay_145 ?_
              refine x_bipush g 6 dX12_isWay_146 (by decide) ?_
              refine x_iload g 7 dX12_isWay_148 rfl ?_
              refine x_imul g dX12_isWay_150 ?_
              refine x_iload g 2 dX12_isWay_151 rfl ?_
              refine x_iadd g dX12_isWay_153 ?_
              refine x_iastB g wm_33 (sm_33 _ _) dX12_isWay_154 hf (fun σ12 hf => ?_)
              refine x_iload g 0 dX12_isWay_155 rfl ?_
              refine x_if_eq_t g 165 dX12_isWay_157 (by decide) (by decide) ?_
              refine x_iload g 7 dX12_isWay_165 rfl ?_
              refine x_istore (lv' := [(5, .int v5), (6, .int 0), (9, .int r7), (8, .int (2 + (remI (v4 / r6) 4))), (0, .ref (Ad 0)), (2, .int v2), (3, .int v3), (4, .int v4), (7, .int v7)]) g dX12_isWay_167 (by decide) rfl ?_
              refine x_aload_n g 4 dX12_isWay_169 rfl rfl ?_
              refine x_get g fl_X12_110 wm_0 rfl dX12_isWay_170 ?_
              refine x_iload g 0 dX12_isWay_173 rfl ?_
              refine x_iconst g 1 dX12_isWay_175 (by decide) ?_
              refine x_zastB g 1 rfl wm_34 (sm_34 _ _) dX12_isWay_176 hf (fun σ13 hf => ?_)
              refine x_iinc g 8 (v7 + 1) (lv' := [(7, .int (v7 + 1)), (5, .int v5), (6, .int 0), (9, .int r7), (8, .int (2 + (remI (v4 / r6) 4))), (0, .ref (Ad 0)), (2, .int v2), (3, .int v3), (4, .int v4)]) dX12_isWay_177 rfl (by rfl) (by decide) rfl ?_
              refine x_goto g 53 dX12_isWay_180 (by decide) ?_
              exact x_sub [5, 6, 7, 8, 1, 2, 0] rfl (ih53 _ _ _ _ hf)
          · refine x_iconst g 0 dX12_isWay_135 (by decide) ?_
            refine x_istore (lv' := [(6, .int 0), (9, .int r7), (8, .int (2 + (remI (v4 / r6) 4))), (0, .ref (Ad 0)), (2, .int v2), (3, .int v3), (4, .int v4), (5, .int v5), (7, .int v7)]) g dX12_isWay_136 (by decide) rfl ?_
            refine x_aload_n g 3 dX12_isWay_138 rfl rfl ?_
            refine x_get g fl_X12_107 wm_0 rfl dX12_isWay_139 ?_
            refine x_iload g 8 dX12_isWay_142 rfl ?_
            refine x_iconst g 1 dX12_isWay_144 (by decide) ?_
            refine x_iadd g dX12_isWay_145 ?_
            refine x_bipush g 6 dX12_isWay_146 (by decide) ?_
            refine x_iload g 7 dX12_isWay_148 rfl ?_
            refine x_imul g dX12_isWay_150 ?_
            refine x_iload g 2 dX12_isWay_151 rfl ?_
            refine x_iadd g dX12_isWay_153 ?_
            refine x_iastB g wm_33 (sm_33 _ _) dX12_isWay_154 hf (fun σ14 hf => ?_)
            refine x_iload g 0 dX12_isWay_155 rfl ?_
            refine x_if_eq_t g 165 dX12_isWay_157 (by decide) (by decide) ?_
            refine x_iload g 7 dX12_isWay_165 rfl ?_
            refine x_istore (lv' := [(5, .int v5), (6, .int 0), (9, .int r7), (8, .int (2 + (remI (v4 / r6) 4))), (0, .ref (Ad 0)), (2, .int v2), (3, .int v3), (4, .int v4), (7, .int v7)]) g dX12_isWay_167 (by decide) rfl ?_
            refine x_aload_n g 4 dX12_isWay_169 rfl rfl ?_
            refine x_get g fl_X12_110 wm_0 rfl dX12_isWay_170 ?_
            refine x_iload g 0 dX12_isWay_173 rfl ?_
            refine x_iconst g 1 dX12_isWay_175 (by decide) ?_
            refine x_zastB g 1 rfl wm_34 (sm_34 _ _) dX12_isWay_176 hf (fun σ15 hf => ?_)
            refine x_iinc g 8 (v7 + 1) (lv' := [(7, .int (v7 + 1)), (5, .int v5), (6, .int 0), (9, .int r7), (8, .int (2 + (remI (v4 / r6) 4))), (0, .ref (Ad 0)), (2, .int v2), (3, .int v3), (4, .int v4)]) dX12_isWay_177 rfl (by rfl) (by decide) rfl ?_
            refine x_goto g 53 dX12_isWay_180 (by decide) ?_
            exact x_sub [5, 6, 7, 8, 1, 2, 0] rfl (ih53 _ _ _ _ hf)
    · refine x_aload_n g 0 dX12_isWay_183 rfl rfl ?_
      refine x_iload_n g 2 dX12_isWay_184 rfl rfl ?_
      refine x_putB g tyX12 fl_X12_213 tyX12_ok nmX12 wm_0 rfl rfl rfl (Nat.le_of_ble_eq_true rfl) (sm_0_45 _) dX12_isWay_185 hf (fun σ16 hf => ?_)
      refine x_aload_n g 0 dX12_isWay_188 rfl rfl ?_
      refine x_get g fl_X12_107 wm_0 rfl dX12_isWay_189 ?_
      refine x_iload_n g 2 dX12_isWay_192 rfl rfl ?_
      refine x_iconst g 1 dX12_isWay_193 (by decide) ?_
      refine x_iadd g dX12_isWay_194 ?_
      refine x_bipush g 6 dX12_isWay_195 (by decide) ?_
      refine x_iload_n g 1 dX12_isWay_197 rfl rfl ?_
      refine x_imul g dX12_isWay_198 ?_
      refine x_iconst g 1 dX12_isWay_199 (by decide) ?_
      refine x_iadd g dX12_isWay_200 ?_
      refine x_iastB g wm_33 (sm_33 _ _) dX12_isWay_201 hf (fun σ17 hf => ?_)
      refine x_iload g 5 dX12_isWay_202 rfl ?_
      refine x_if_eq g 217 dX12_isWay_204 (by decide) hf (fun c204 hf => ?_) (fun c204 hf => ?_)
      · refine x_iconst g 0 dX12_isWay_217 (by decide) ?_
        cases hf
        exact x_zret g rfl (by decide) ho dX12_isWay_218
      · refine x_iload g 4 dX12_isWay_207 rfl ?_
        refine x_iload_n g 1 dX12_isWay_209 rfl rfl ?_
        refine x_icmp_ne g 217 dX12_isWay_210 (by decide) hf (fun c210 hf => ?_) (fun c210 hf => ?_)
        · refine x_iconst g 1 dX12_isWay_213 (by decide) ?_
          refine x_goto g 218 dX12_isWay_214 (by decide) ?_
          cases hf
          exact x_zret g rfl (by decide) ho dX12_isWay_218
        · refine x_iconst g 0 dX12_isWay_217 (by decide) ?_
          cases hf
          exact x_zret g rfl (by decide) ho dX12_isWay_218
set_option maxHeartbeats 4000000 in
set_option maxRecDepth 100000 in
theorem l_X12_isWay_L3 {E : EV} {l : Launch} {D : va_G} {cy : Nat → ClassId} {Ad : Nat → Nat} {out : St × Option Value} {o : (St × Int32)} (hA : AdOK 37 Ad) (xl : XL E l D (AdA 37 Ad)) (g : XG E (wM cy Ad) cy cX12_isWay RX12 10 1 (some .boolean) out) (v1 : Int32) (v2 : Int32) (v3 : Int32) (v4 : Int32) (ho : out = (o.1, (some (.int o.2)))) : ∀ (n : Nat) (σ : St) (v5 : Int32), f_X12_isWay_L3 v1 v2 v3 v4 n σ v5 = some o → XJ E (wM cy Ad σ) 3 [(0, .ref (Ad 0)), (1, .int v1), (2, .int v2), (3, .int v3), (4, .int v4), (5, .int v5)] [] := by
  intro n
  induction n with
  | zero => intro _ _ hf; cases hf
  | succ n ih3 =>
    intro σ v5 hf
    replace hf : f_X12_isWay_L3b v1 v2 v3 v4 (f_X12_isWay_L3 v1 v2 v3 v4 n) σ v5 = some o := hf
    unfold f_X12_isWay_L3b at hf
    refine x_iload g 5 dX12_isWay_3 rfl ?_
    refine x_bipush g 9 dX12_isWay_5 (by decide) ?_
    refine x_icmp_ge g 34 dX12_isWay_7 (by decide) hf (fun c7 hf => ?_) (fun c7 hf => ?_)
    · refine x_aload_n g 0 dX12_isWay_10 rfl rfl ?_
      refine x_get g fl_X12_110 wm_0 rfl dX12_isWay_11 ?_
      refine x_iload g 5 dX12_isWay_14 rfl ?_
      refine x_iload g 5 dX12_isWay_16 rfl ?_
      refine x_iload_n g 1 dX12_isWay_18 rfl rfl ?_
      refine x_icmp_ne g 26 dX12_isWay_19 (by decide) hf (fun c19 hf => ?_) (fun c19 hf => ?_)
      · refine x_iconst g 1 dX12_isWay_22 (by decide) ?_
        refine x_goto g 27 dX12_isWay_23 (by decide) ?_
        refine x_zastB g 1 rfl wm_34 (sm_34 _ _) dX12_isWay_27 hf (fun σ1 hf => ?_)
        refine x_iinc g 5 (v5 + 1) (lv' := [(5, .int (v5 + 1)), (0, .ref (Ad 0)), (1, .int v1), (2, .int v2), (3, .int v3), (4, .int v4)]) dX12_isWay_28 rfl (by rfl) (by decide) rfl ?_
        refine x_goto g 3 dX12_isWay_31 (by decide) ?_
        exact x_sub [1, 2, 3, 4, 5, 0] rfl (ih3 _ _ hf)
      · refine x_iconst g 0 dX12_isWay_26 (by decide) ?_
        refine x_zastB g 0 rfl wm_34 (sm_34 _ _) dX12_isWay_27 hf (fun σ2 hf => ?_)
        refine x_iinc g 5 (v5 + 1) (lv' := [(5, .int (v5 + 1)), (0, .ref (Ad 0)), (1, .int v1), (2, .int v2), (3, .int v3), (4, .int v4)]) dX12_isWay_28 rfl (by rfl) (by decide) rfl ?_
        refine x_goto g 3 dX12_isWay_31 (by decide) ?_
        exact x_sub [1, 2, 3, 4, 5, 0] rfl (ih3 _ _ hf)
    · refine x_iload_n g 1 dX12_isWay_34 rfl rfl ?_
      refine x_istore (lv' := [(5, .int v1), (0, .ref (Ad 0)), (1, .int v1), (2, .int v2), (3, .int v3), (4, .int v4)]) g dX12_isWay_35 (by decide) rfl ?_
      refine x_iconst g 1 dX12_isWay_37 (by decide) ?_
      refine x_istore (lv' := [(6, .int 1), (5, .int v1), (0, .ref (Ad 0)), (1, .int v1), (2, .int v2), (3, .int v3), (4, .int v4)]) g dX12_isWay_38 (by decide) rfl ?_
      refine x_aload_n g 2 dX12_isWay_40 rfl rfl ?_
      refine x_get g fl_X12_107 wm_0 rfl dX12_isWay_41 ?_
      refine x_iconst g 0 dX12_isWay_44 (by decide) ?_
      refine x_bipush g 6 dX12_isWay_45 (by decide) ?_
      refine x_iload_n g 3 dX12_isWay_47 rfl rfl ?_
      refine x_imul g dX12_isWay_48 ?_
      refine x_iastB g wm_33 (sm_33 _ _) dX12_isWay_49 (chk_of (by decide) hf) (fun σ3 hf => ?_)
      refine x_iconst g 0 dX12_isWay_50 (by decide) ?_
      refine x_istore (lv' := [(7, .int 0), (6, .int 1), (5, .int v1), (0, .ref (Ad 0)), (1, .int v1), (2, .int v2), (3, .int v3), (4, .int v4)]) g dX12_isWay_51 (by decide) rfl ?_
      exact x_sub [3, 5, 6, 7, 2, 1, 0] rfl (l_X12_isWay_L53 hA xl g _ _ _ ho FU _ _ _ _ hf)
set_option maxHeartbeats 4000000 in
set_option maxRecDepth 100000 in
theorem c_X12_isWay {l : Launch} {D : va_G} {cy : Nat → ClassId} {Ad : Nat → Nat} (hA : AdOK 37 Ad) {σ : St} {p1 : Int32} {p2 : Int32} {p3 : Int32} {p4 : Int32} {o : (St × Int32)} (hf : f_X12_isWay σ p1 p2 p3 p4 = some o) : CT l (wM cy Ad) D cy (AdA 37 Ad) yX12_isWay cX12_isWay 10 (some .boolean) 1 [.ref (Ad 0), .int p1, .int p2, .int p3, .int p4] σ (o.1, (some (.int o.2))) := by
  refine CT.of mf_X12_isWay (wM_D hA) (Nat.le_of_ble_eq_true rfl) ?_
  intro E xl g
  have ho : ((o.1, (some (.int o.2))) : St × Option Value) = (o.1, (some (.int o.2))) := rfl
  unfold f_X12_isWay at hf
  show XJ E (wM cy Ad σ) 0 [(0, .ref (Ad 0)), (1, .int p1), (2, .int p2), (3, .int p3), (4, .int p4)] []
  refine x_iconst g 0 dX12_isWay_0 (by decide) ?_
  refine x_istore (lv' := [(5, .int 0), (0, .ref (Ad 0)), (1, .int p1), (2, .int p2), (3, .int p3), (4, .int p4)]) g dX12_isWay_1 (by decide) rfl ?_
  exact x_sub [1, 2, 3, 4, 5, 0] rfl (l_X12_isWay_L3 hA xl g _ _ _ _ ho FU _ _ hf)
/-! SlotChipModel.freeStarts(I)I -/
def f_X12_freeStarts_L18b (K4 : Int32 → Int32 → Option Int32) (σ : St) (v1 : Int32) (v2 : Int32) (v3 : Int32) (K18 : Int32 → Int32 → Option Int32) (v4 : Int32) (v5 : Int32) : Option Int32 :=
  if v5 < ((σ.1 0 0 45) + 2) then
    (if v4 = 0 then
      K18 0 (v5 + 1)
    else
      (chk (inb v5 8) (
        chk (¬ (σ.1 0 0 2) = 0) (
          (f_X12_ownerOf σ (σ.1 46 0 (Int32.toNatClampNeg v5)) (remI (v3 + v5) (σ.1 0 0 2)) v1).bind fun r1 =>
          if r1 = (-1) then
            K18 1 (v5 + 1)
          else
            K18 0 (v5 + 1)))))
  else
    (if v4 = 0 then
      K4 (v2 ||| 0) (v3 + 1)
    else
      (bnd (v2 ||| (1 <<< (v3 &&& 31))) fun y2 =>
      K4 y2 (v3 + 1)))
def f_X12_freeStarts_L18 (K4 : Int32 → Int32 → Option Int32) (σ : St) (v1 : Int32) (v2 : Int32) (v3 : Int32) : Nat → Int32 → Int32 → Option Int32
  | 0 => fun _ _ => none
  | n + 1 => f_X12_freeStarts_L18b K4 σ v1 v2 v3 (f_X12_freeStarts_L18 K4 σ v1 v2 v3 n)
def f_X12_freeStarts_L4b (σ : St) (v1 : Int32) (K4 : Int32 → Int32 → Option Int32) (v2 : Int32) (v3 : Int32) : Option Int32 :=
  if v3 < (σ.1 0 0 2) then
    f_X12_freeStarts_L18 K4 σ v1 v2 v3 FU 1 0
  else
    some v2
def f_X12_freeStarts_L4 (σ : St) (v1 : Int32) : Nat → Int32 → Int32 → Option Int32
  | 0 => fun _ _ => none
  | n + 1 => f_X12_freeStarts_L4b σ v1 (f_X12_freeStarts_L4 σ v1 n)
def f_X12_freeStarts (σ : St) (p1 : Int32) : Option Int32 :=
  f_X12_freeStarts_L4 σ p1 FU 0 0
set_option maxHeartbeats 4000000 in
set_option maxRecDepth 100000 in
theorem l_X12_freeStarts_L18 {E : EV} {l : Launch} {D : va_G} {cy : Nat → ClassId} {Ad : Nat → Nat} {out : St × Option Value} {o : Int32} (hA : AdOK 37 Ad) (xl : XL E l D (AdA 37 Ad)) (g : XG E (wM cy Ad) cy cX12_freeStarts RX12 6 3 (some .int) out) {K4 : Int32 → Int32 → Option Int32} (σ : St) (v1 : Int32) (v2 : Int32) (v3 : Int32) (ho : out = (σ, (some (.int o)))) (ih4 : ∀ (v2 : Int32) (v3 : Int32), K4 v2 v3 = some o → XJ E (wM cy Ad σ) 4 [(0, .ref (Ad 0)), (1, .int v1), (2, .int v2), (3, .int v3)] []) : ∀ (n : Nat) (v4 : Int32) (v5 : Int32), f_X12_freeStarts_L18 K4 σ v1 v2 v3 n v4 v5 = some o → XJ E (wM cy Ad σ) 18 [(0, .ref (Ad 0)), (1, .int v1), (2, .int v2), (3, .int v3), (4, .int v4), (5, .int v5)] [] := by
  intro n
  induction n with
  | zero => intro _ _ hf; cases hf
  | succ n ih18 =>
    intro v4 v5 hf
    replace hf : f_X12_freeStarts_L18b K4 σ v1 v2 v3 (f_X12_freeStarts_L18 K4 σ v1 v2 v3 n) v4 v5 = some o := hf
    unfold f_X12_freeStarts_L18b at hf
    refine x_iload g 5 dX12_freeStarts_18 rfl ?_
    refine x_aload_n g 0 dX12_freeStarts_20 rfl rfl ?_
    refine x_get g fl_X12_213 wm_0 rfl dX12_freeStarts_21 ?_
    refine x_iconst g 2 dX12_freeStarts_24 (by decide) ?_
    refine x_iadd g dX12_freeStarts_25 ?_
    refine x_icmp_ge g 72 dX12_freeStarts_26 (by decide) hf (fun c26 hf => ?_) (fun c26 hf => ?_)
    · refine x_iload g 4 dX12_freeStarts_29 rfl ?_
      refine x_if_eq g 63 dX12_freeStarts_31 (by decide) hf (fun c31 hf => ?_) (fun c31 hf => ?_)
      · refine x_iconst g 0 dX12_freeStarts_63 (by decide) ?_
        refine x_istore (lv' := [(4, .int 0), (0, .ref (Ad 0)), (1, .int v1), (2, .int v2), (3, .int v3), (5, .int v5)]) g dX12_freeStarts_64 (by decide) rfl ?_
        refine x_iinc g 5 (v5 + 1) (lv' := [(5, .int (v5 + 1)), (4, .int 0), (0, .ref (Ad 0)), (1, .int v1), (2, .int v2), (3, .int v3)]) dX12_freeStarts_66 rfl (by rfl) (by decide) rfl ?_
        refine x_goto g 18 dX12_freeStarts_69 (by decide) ?_
        exact x_sub [2, 3, 4, 5, 1, 0] rfl (ih18 _ _ hf)
      · refine x_aload_n g 0 dX12_freeStarts_34 rfl rfl ?_
        refine x_aload_n g 0 dX12_freeStarts_35 rfl rfl ?_
        refine x_get g fl_X12_107 wm_0 rfl dX12_freeStarts_36 ?_
        refine x_iload g 5 dX12_freeStarts_39 rfl ?_
        refine x_iald g wm_33 dX12_freeStarts_41 hf (fun hf => ?_)
        refine x_iload_n g 3 dX12_freeStarts_42 rfl rfl ?_
        refine x_iload g 5 dX12_freeStarts_43 rfl ?_
        refine x_iadd g dX12_freeStarts_45 ?_
        refine x_aload_n g 0 dX12_freeStarts_46 rfl rfl ?_
        refine x_get g fl_X12_185 wm_0 rfl dX12_freeStarts_47 ?_
        have hz := (chk_some hf).1
        replace hf := (chk_some hf).2
        refine x_irem g dX12_freeStarts_50 hz ?_
        refine x_iload_n g 1 dX12_freeStarts_51 rfl rfl ?_
        obtain ⟨r1, hgr1, hf⟩ := obind hf
        refine x_callV (r := (RX12, TX12, 53)) g xl [.int (σ.1 46 0 (Int32.toNatClampNeg v5)), .int (remI (v3 + v5) (σ.1 0 0 2)), .int v1] [] [.int r1] (c_X12_ownerOf hA hgr1) mf_X12_ownerOf im_X12_ownerOf se_X12_ownerOf ml_X12_206 rfl wm_0 (by decide) (by decide) rfl (Nat.le_of_ble_eq_true rfl) dX12_freeStarts_52 rfl rfl ?_
        refine x_iconst g (-1) dX12_freeStarts_55 (by decide) ?_
        refine x_icmp_ne g 63 dX12_freeStarts_56 (by decide) hf (fun c56 hf => ?_) (fun c56 hf => ?_)
        · refine x_iconst g 1 dX12_freeStarts_59 (by decide) ?_
          refine x_goto g 64 dX12_freeStarts_60 (by decide) ?_
          refine x_istore (lv' := [(4, .int 1), (0, .ref (Ad 0)), (1, .int v1), (2, .int v2), (3, .int v3), (5, .int v5)]) g dX12_freeStarts_64 (by decide) rfl ?_
          refine x_iinc g 5 (v5 + 1) (lv' := [(5, .int (v5 + 1)), (4, .int 1), (0, .ref (Ad 0)), (1, .int v1), (2, .int v2), (3, .int v3)]) dX12_freeStarts_66 rfl (by rfl) (by decide) rfl ?_
          refine x_goto g 18 dX12_freeStarts_69 (by decide) ?_
          exact x_sub [2, 3, 4, 5, 1, 0] rfl (ih18 _ _ hf)
        · refine x_iconst g 0 dX12_freeStarts_63 (by decide) ?_
          refine x_istore (lv' := [(4, .int 0), (0, .ref (Ad 0)), (1, .int v1), (2, .int v2), (3, .int v3), (5, .int v5)]) g dX12_freeStarts_64 (by decide) rfl ?_
          refine x_iinc g 5 (v5 + 1) (lv' := [(5, .int (v5 + 1)), (4, .int 0), (0, .ref (Ad 0)), (1, .int v1), (2, .int v2), (3, .int v3)]) dX12_freeStarts_66 rfl (by rfl) (by decide) rfl ?_
          refine x_goto g 18 dX12_freeStarts_69 (by decide) ?_
          exact x_sub [2, 3, 4, 5, 1, 0] rfl (ih18 _ _ hf)
    · refine x_iload_n g 2 dX12_freeStarts_72 rfl rfl ?_
      refine x_iload g 4 dX12_freeStarts_73 rfl ?_
      refine x_if_eq g 84 dX12_freeStarts_75 (by decide) hf (fun c75 hf => ?_) (fun c75 hf => ?_)
      · refine x_iconst g 0 dX12_freeStarts_84 (by decide) ?_
        refine x_ior g dX12_freeStarts_85 ?_
        refine x_istore_n (lv' := [(2, .int (v2 ||| 0)), (0, .ref (Ad 0)), (1, .int v1), (3, .int v3), (4, .int v4), (5, .int v5)]) g dX12_freeStarts_86 rfl (by decide) rfl ?_
        refine x_iinc g 3 (v3 + 1) (lv' := [(3, .int (v3 + 1)), (2, .int (v2 ||| 0)), (0, .ref (Ad 0)), (1, .int v1), (4, .int v4), (5, .int v5)]) dX12_freeStarts_87 rfl (by rfl) (by decide) rfl ?_
        refine x_goto g 4 dX12_freeStarts_90 (by decide) ?_
        exact x_sub [2, 3, 1, 0] rfl (ih4 _ _ hf)
      · refine x_iconst g 1 dX12_freeStarts_78 (by decide) ?_
        refine x_iload_n g 3 dX12_freeStarts_79 rfl rfl ?_
        refine x_ishl g dX12_freeStarts_80 ?_
        refine x_goto g 85 dX12_freeStarts_81 (by decide) ?_
        refine x_ior g dX12_freeStarts_85 ?_
        refine x_nami hf (fun y2 hf => ?_)
        refine x_istore_n (lv' := [(2, .int y2), (0, .ref (Ad 0)), (1, .int v1), (3, .int v3), (4, .int v4), (5, .int v5)]) g dX12_freeStarts_86 rfl (by decide) rfl ?_
        refine x_iinc g 3 (v3 + 1) (lv' := [(3, .int (v3 + 1)), (2, .int y2), (0, .ref (Ad 0)), (1, .int v1), (4, .int v4), (5, .int v5)]) dX12_freeStarts_87 rfl (by rfl) (by decide) rfl ?_
        refine x_goto g 4 dX12_freeStarts_90 (by decide) ?_
        exact x_sub [2, 3, 1, 0] rfl (ih4 _ _ hf)
set_option maxHeartbeats 4000000 in
set_option maxRecDepth 100000 in
theorem l_X12_freeStarts_L4 {E : EV} {l : Launch} {D : va_G} {cy : Nat → ClassId} {Ad : Nat → Nat} {out : St × Option Value} {o : Int32} (hA : AdOK 37 Ad) (xl : XL E l D (AdA 37 Ad)) (g : XG E (wM cy Ad) cy cX12_freeStarts RX12 6 3 (some .int) out) (σ : St) (v1 : Int32) (ho : out = (σ, (some (.int o)))) : ∀ (n : Nat) (v2 : Int32) (v3 : Int32), f_X12_freeStarts_L4 σ v1 n v2 v3 = some o → XJ E (wM cy Ad σ) 4 [(0, .ref (Ad 0)), (1, .int v1), (2, .int v2), (3, .int v3)] [] := by
  intro n
  induction n with
  | zero => intro _ _ hf; cases hf
  | succ n ih4 =>
    intro v2 v3 hf
    replace hf : f_X12_freeStarts_L4b σ v1 (f_X12_freeStarts_L4 σ v1 n) v2 v3 = some o := hf
    unfold f_X12_freeStarts_L4b at hf
    refine x_iload_n g 3 dX12_freeStarts_4 rfl rfl ?_
    refine x_aload_n g 0 dX12_freeStarts_5 rfl rfl ?_
    refine x_get g fl_X12_185 wm_0 rfl dX12_freeStarts_6 ?_
    refine x_icmp_ge g 93 dX12_freeStarts_9 (by decide) hf (fun c9 hf => ?_) (fun c9 hf => ?_)
    · refine x_iconst g 1 dX12_freeStarts_12 (by decide) ?_
      refine x_istore (lv' := [(4, .int 1), (0, .ref (Ad 0)), (1, .int v1), (2, .int v2), (3, .int v3)]) g dX12_freeStarts_13 (by decide) rfl ?_
      refine x_iconst g 0 dX12_freeStarts_15 (by decide) ?_
      refine x_istore (lv' := [(5, .int 0), (4, .int 1), (0, .ref (Ad 0)), (1, .int v1), (2, .int v2), (3, .int v3)]) g dX12_freeStarts_16 (by decide) rfl ?_
      exact x_sub [2, 3, 4, 5, 1, 0] rfl (l_X12_freeStarts_L18 hA xl g _ _ _ _ ho ih4 FU _ _ hf)
    · refine x_iload_n g 2 dX12_freeStarts_93 rfl rfl ?_
      cases hf
      exact x_iret g rfl ho dX12_freeStarts_94
set_option maxHeartbeats 4000000 in
set_option maxRecDepth 100000 in
theorem c_X12_freeStarts {l : Launch} {D : va_G} {cy : Nat → ClassId} {Ad : Nat → Nat} (hA : AdOK 37 Ad) {σ : St} {p1 : Int32} {o : Int32} (hf : f_X12_freeStarts σ p1 = some o) : CT l (wM cy Ad) D cy (AdA 37 Ad) yX12_freeStarts cX12_freeStarts 6 (some .int) 3 [.ref (Ad 0), .int p1] σ (σ, (some (.int o))) := by
  refine CT.of mf_X12_freeStarts (wM_D hA) (Nat.le_of_ble_eq_true rfl) ?_
  intro E xl g
  have ho : ((σ, (some (.int o))) : St × Option Value) = (σ, (some (.int o))) := rfl
  unfold f_X12_freeStarts at hf
  show XJ E (wM cy Ad σ) 0 [(0, .ref (Ad 0)), (1, .int p1)] []
  refine x_iconst g 0 dX12_freeStarts_0 (by decide) ?_
  refine x_istore_n (lv' := [(2, .int 0), (0, .ref (Ad 0)), (1, .int p1)]) g dX12_freeStarts_1 rfl (by decide) rfl ?_
  refine x_iconst g 0 dX12_freeStarts_2 (by decide) ?_
  refine x_istore_n (lv' := [(3, .int 0), (2, .int 0), (0, .ref (Ad 0)), (1, .int p1)]) g dX12_freeStarts_3 rfl (by decide) rfl ?_
  exact x_sub [2, 3, 1, 0] rfl (l_X12_freeStarts_L4 hA xl g _ _ ho FU _ _ hf)
/-! SlotChipModel.size(I)I -/
def f_X12_size_L4b (v0 : Int32) (K4 : Int32 → Int32 → Option Int32) (v1 : Int32) (v2 : Int32) : Option Int32 :=
  if v2 < 16 then
    (bnd (v1 + ((v0 >>> (v2 &&& 31)) &&& 1)) fun y1 =>
    K4 y1 (v2 + 1))
  else
    some v1
def f_X12_size_L4 (v0 : Int32) : Nat → Int32 → Int32 → Option Int32
  | 0 => fun _ _ => none
  | n + 1 => f_X12_size_L4b v0 (f_X12_size_L4 v0 n)
def f_X12_size (p1 : Int32) : Option Int32 :=
  f_X12_size_L4 p1 FU 0 0
set_option maxHeartbeats 4000000 in
set_option maxRecDepth 100000 in
theorem l_X12_size_L4 {E : EV} {l : Launch} {D : va_G} {cy : Nat → ClassId} {Ad : Nat → Nat} {out : St × Option Value} {o : Int32} (hA : AdOK 37 Ad) (xl : XL E l D (AdA 37 Ad)) (g : XG E (wM cy Ad) cy cX12_size RX12 3 0 (some .int) out) (v0 : Int32) (σ : St) (ho : out = (σ, (some (.int o)))) : ∀ (n : Nat) (v1 : Int32) (v2 : Int32), f_X12_size_L4 v0 n v1 v2 = some o → XJ E (wM cy Ad σ) 4 [(0, .int v0), (1, .int v1), (2, .int v2)] [] := by
  intro n
  induction n with
  | zero => intro _ _ hf; cases hf
  | succ n ih4 =>
    intro v1 v2 hf
    replace hf : f_X12_size_L4b v0 (f_X12_size_L4 v0 n) v1 v2 = some o := hf
    unfold f_X12_size_L4b at hf
    refine x_iload_n g 2 dX12_size_4 rfl rfl ?_
    refine x_bipush g 16 dX12_size_5 (by decide) ?_
    refine x_icmp_ge g 24 dX12_size_7 (by decide) hf (fun c7 hf => ?_) (fun c7 hf => ?_)
    · refine x_iload_n g 1 dX12_size_10 rfl rfl ?_
      refine x_iload_n g 0 dX12_size_11 rfl rfl ?_
      refine x_iload_n g 2 dX12_size_12 rfl rfl ?_
      refine x_ishr g dX12_size_13 ?_
      refine x_iconst g 1 dX12_size_14 (by decide) ?_
      refine x_iand g dX12_size_15 ?_
      refine x_iadd g dX12_size_16 ?_
      refine x_nami hf (fun y1 hf => ?_)
      refine x_istore_n (lv' := [(1, .int y1), (0, .int v0), (2, .int v2)]) g dX12_size_17 rfl (by decide) rfl ?_
      refine x_iinc g 2 (v2 + 1) (lv' := [(2, .int (v2 + 1)), (1, .int y1), (0, .int v0)]) dX12_size_18 rfl (by rfl) (by decide) rfl ?_
      refine x_goto g 4 dX12_size_21 (by decide) ?_
      exact x_sub [2, 1, 0] rfl (ih4 _ _ hf)
    · refine x_iload_n g 1 dX12_size_24 rfl rfl ?_
      cases hf
      exact x_iret g rfl ho dX12_size_25
set_option maxHeartbeats 4000000 in
set_option maxRecDepth 100000 in
theorem c_X12_size {l : Launch} {D : va_G} {cy : Nat → ClassId} {Ad : Nat → Nat} (hA : AdOK 37 Ad) {σ : St} {p1 : Int32} {o : Int32} (hf : f_X12_size p1 = some o) : CT l (wM cy Ad) D cy (AdA 37 Ad) yX12_size cX12_size 3 (some .int) 0 [.int p1] σ (σ, (some (.int o))) := by
  refine CT.of mf_X12_size (wM_D hA) (Nat.le_of_ble_eq_true rfl) ?_
  intro E xl g
  have ho : ((σ, (some (.int o))) : St × Option Value) = (σ, (some (.int o))) := rfl
  unfold f_X12_size at hf
  show XJ E (wM cy Ad σ) 0 [(0, .int p1)] []
  refine x_iconst g 0 dX12_size_0 (by decide) ?_
  refine x_istore_n (lv' := [(1, .int 0), (0, .int p1)]) g dX12_size_1 rfl (by decide) rfl ?_
  refine x_iconst g 0 dX12_size_2 (by decide) ?_
  refine x_istore_n (lv' := [(2, .int 0), (1, .int 0), (0, .int p1)]) g dX12_size_3 rfl (by decide) rfl ?_
  exact x_sub [2, 1, 0] rfl (l_X12_size_L4 hA xl g _ _ ho FU _ _ hf)
/-! SlotChipModel.gapOf(I)I -/
def f_X12_gapOf_L15b (K4 : Int32 → Int32 → Option Int32) (σ : St) (v1 : Int32) (v2 : Int32) (v3 : Int32) (K15 : Int32 → Option Int32) (v4 : Int32) : Option Int32 :=
  chk (¬ (σ.1 0 0 2) = 0) (
    (f_X12_isBit v1 (remI (v3 + v4) (σ.1 0 0 2))).bind fun r1 =>
    if r1 = 0 then
      (if v4 < (σ.1 0 0 2) then
        K15 (v4 + 1)
      else
        ((f_X12_isBit v1 v3).bind fun r2 =>
        if r2 = 0 then
          K4 v2 (v3 + 1)
        else
          (if v2 < v4 then
            K4 v4 (v3 + 1)
          else
            K4 v2 (v3 + 1))))
    else
      ((f_X12_isBit v1 v3).bind fun r3 =>
      if r3 = 0 then
        K4 v2 (v3 + 1)
      else
        (if v2 < v4 then
          K4 v4 (v3 + 1)
        else
          K4 v2 (v3 + 1))))
def f_X12_gapOf_L15 (K4 : Int32 → Int32 → Option Int32) (σ : St) (v1 : Int32) (v2 : Int32) (v3 : Int32) : Nat → Int32 → Option Int32
  | 0 => fun _ => none
  | n + 1 => f_X12_gapOf_L15b K4 σ v1 v2 v3 (f_X12_gapOf_L15 K4 σ v1 v2 v3 n)
def f_X12_gapOf_L4b (σ : St) (v1 : Int32) (K4 : Int32 → Int32 → Option Int32) (v2 : Int32) (v3 : Int32) : Option Int32 :=
  if v3 < (σ.1 0 0 2) then
    f_X12_gapOf_L15 K4 σ v1 v2 v3 FU 1
  else
    some v2
def f_X12_gapOf_L4 (σ : St) (v1 : Int32) : Nat → Int32 → Int32 → Option Int32
  | 0 => fun _ _ => none
  | n + 1 => f_X12_gapOf_L4b σ v1 (f_X12_gapOf_L4 σ v1 n)
def f_X12_gapOf (σ : St) (p1 : Int32) : Option Int32 :=
  f_X12_gapOf_L4 σ p1 FU 0 0
set_option maxHeartbeats 4000000 in
set_option maxRecDepth 100000 in
theorem l_X12_gapOf_L15 {E : EV} {l : Launch} {D : va_G} {cy : Nat → ClassId} {Ad : Nat → Nat} {out : St × Option Value} {o : Int32} (hA : AdOK 37 Ad) (xl : XL E l D (AdA 37 Ad)) (g : XG E (wM cy Ad) cy cX12_gapOf RX12 5 1 (some .int) out) {K4 : Int32 → Int32 → Option Int32} (σ : St) (v1 : Int32) (v2 : Int32) (v3 : Int32) (ho : out = (σ, (some (.int o)))) (ih4 : ∀ (v2 : Int32) (v3 : Int32), K4 v2 v3 = some o → XJ E (wM cy Ad σ) 4 [(0, .ref (Ad 0)), (1, .int v1), (2, .int v2), (3, .int v3)] []) : ∀ (n : Nat) (v4 : Int32), f_X12_gapOf_L15 K4 σ v1 v2 v3 n v4 = some o → XJ E (wM cy Ad σ) 15 [(0, .ref (Ad 0)), (1, .int v1), (2, .int v2), (3, .int v3), (4, .int v4)] [] := by
  intro n
  induction n with
  | zero => intro _ hf; cases hf
  | succ n ih15 =>
    intro v4 hf
    replace hf : f_X12_gapOf_L15b K4 σ v1 v2 v3 (f_X12_gapOf_L15 K4 σ v1 v2 v3 n) v4 = some o := hf
    unfold f_X12_gapOf_L15b at hf
    refine x_iload_n g 1 dX12_gapOf_15 rfl rfl ?_
    refine x_iload_n g 3 dX12_gapOf_16 rfl rfl ?_
    refine x_iload g 4 dX12_gapOf_17 rfl ?_
    refine x_iadd g dX12_gapOf_19 ?_
    refine x_aload_n g 0 dX12_gapOf_20 rfl rfl ?_
    refine x_get g fl_X12_185 wm_0 rfl dX12_gapOf_21 ?_
    have hz := (chk_some hf).1
    replace hf := (chk_some hf).2
    refine x_irem g dX12_gapOf_24 hz ?_
    obtain ⟨r1, hgr1, hf⟩ := obind hf
    refine x_callS g xl [.int v1, .int (remI (v3 + v4) (σ.1 0 0 2))] [] [.int r1] (c_X12_isBit hA hgr1) mf_X12_isBit sm_X12_isBit ml_X12_200 (by decide) (by decide) rfl (Nat.le_of_ble_eq_true rfl) dX12_gapOf_25 rfl rfl ?_
    refine x_if_ne g 46 dX12_gapOf_28 (by decide) hf (fun c28 hf => ?_) (fun c28 hf => ?_)
    · refine x_iload g 4 dX12_gapOf_31 rfl ?_
      refine x_aload_n g 0 dX12_gapOf_33 rfl rfl ?_
      refine x_get g fl_X12_185 wm_0 rfl dX12_gapOf_34 ?_
      refine x_icmp_ge g 46 dX12_gapOf_37 (by decide) hf (fun c37 hf => ?_) (fun c37 hf => ?_)
      · refine x_iinc g 4 (v4 + 1) (lv' := [(4, .int (v4 + 1)), (0, .ref (Ad 0)), (1, .int v1), (2, .int v2), (3, .int v3)]) dX12_gapOf_40 rfl (by rfl) (by decide) rfl ?_
        refine x_goto g 15 dX12_gapOf_43 (by decide) ?_
        exact x_sub [1, 2, 3, 4, 0] rfl (ih15 _ hf)
      · refine x_iload_n g 1 dX12_gapOf_46 rfl rfl ?_
        refine x_iload_n g 3 dX12_gapOf_47 rfl rfl ?_
        obtain ⟨r2, hgr2, hf⟩ := obind hf
        refine x_callS g xl [.int v1, .int v3] [] [.int r2] (c_X12_isBit hA hgr2) mf_X12_isBit sm_X12_isBit ml_X12_200 (by decide) (by decide) rfl (Nat.le_of_ble_eq_true rfl) dX12_gapOf_48 rfl rfl ?_
        refine x_if_eq g 65 dX12_gapOf_51 (by decide) hf (fun c51 hf => ?_) (fun c51 hf => ?_)
        · refine x_iload_n g 2 dX12_gapOf_65 rfl rfl ?_
          refine x_istore_n (lv' := [(2, .int v2), (0, .ref (Ad 0)), (1, .int v1), (3, .int v3), (4, .int v4)]) g dX12_gapOf_66 rfl (by decide) rfl ?_
          refine x_iinc g 3 (v3 + 1) (lv' := [(3, .int (v3 + 1)), (2, .int v2), (0, .ref (Ad 0)), (1, .int v1), (4, .int v4)]) dX12_gapOf_67 rfl (by rfl) (by decide) rfl ?_
          refine x_goto g 4 dX12_gapOf_70 (by decide) ?_
          exact x_sub [2, 3, 1, 0] rfl (ih4 _ _ hf)
        · refine x_iload g 4 dX12_gapOf_54 rfl ?_
          refine x_iload_n g 2 dX12_gapOf_56 rfl rfl ?_
          refine x_icmp_le g 65 dX12_gapOf_57 (by decide) hf (fun c57 hf => ?_) (fun c57 hf => ?_)
          · refine x_iload g 4 dX12_gapOf_60 rfl ?_
            refine x_goto g 66 dX12_gapOf_62 (by decide) ?_
            refine x_istore_n (lv' := [(2, .int v4), (0, .ref (Ad 0)), (1, .int v1), (3, .int v3), (4, .int v4)]) g dX12_gapOf_66 rfl (by decide) rfl ?_
            refine x_iinc g 3 (v3 + 1) (lv' := [(3, .int (v3 + 1)), (2, .int v4), (0, .ref (Ad 0)), (1, .int v1), (4, .int v4)]) dX12_gapOf_67 rfl (by rfl) (by decide) rfl ?_
            refine x_goto g 4 dX12_gapOf_70 (by decide) ?_
            exact x_sub [2, 3, 1, 0] rfl (ih4 _ _ hf)
          · refine x_iload_n g 2 dX12_gapOf_65 rfl rfl ?_
            refine x_istore_n (lv' := [(2, .int v2), (0, .ref (Ad 0)), (1, .int v1), (3, .int v3), (4, .int v4)]) g dX12_gapOf_66 rfl (by decide) rfl ?_
            refine x_iinc g 3 (v3 + 1) (lv' := [(3, .int (v3 + 1)), (2, .int v2), (0, .ref (Ad 0)), (1, .int v1), (4, .int v4)]) dX12_gapOf_67 rfl (by rfl) (by decide) rfl ?_
            refine x_goto g 4 dX12_gapOf_70 (by decide) ?_
            exact x_sub [2, 3, 1, 0] rfl (ih4 _ _ hf)
    · refine x_iload_n g 1 dX12_gapOf_46 rfl rfl ?_
      refine x_iload_n g 3 dX12_gapOf_47 rfl rfl ?_
      obtain ⟨r3, hgr3, hf⟩ := obind hf
      refine x_callS g xl [.int v1, .int v3] [] [.int r3] (c_X12_isBit hA hgr3) mf_X12_isBit sm_X12_isBit ml_X12_200 (by decide) (by decide) rfl (Nat.le_of_ble_eq_true rfl) dX12_gapOf_48 rfl rfl ?_
      refine x_if_eq g 65 dX12_gapOf_51 (by decide) hf (fun c51 hf => ?_) (fun c51 hf => ?_)
      · refine x_iload_n g 2 dX12_gapOf_65 rfl rfl ?_
        refine x_istore_n (lv' := [(2, .int v2), (0, .ref (Ad 0)), (1, .int v1), (3, .int v3), (4, .int v4)]) g dX12_gapOf_66 rfl (by decide) rfl ?_
        refine x_iinc g 3 (v3 + 1) (lv' := [(3, .int (v3 + 1)), (2, .int v2), (0, .ref (Ad 0)), (1, .int v1), (4, .int v4)]) dX12_gapOf_67 rfl (by rfl) (by decide) rfl ?_
        refine x_goto g 4 dX12_gapOf_70 (by decide) ?_
        exact x_sub [2, 3, 1, 0] rfl (ih4 _ _ hf)
      · refine x_iload g 4 dX12_gapOf_54 rfl ?_
        refine x_iload_n g 2 dX12_gapOf_56 rfl rfl ?_
        refine x_icmp_le g 65 dX12_gapOf_57 (by decide) hf (fun c57 hf => ?_) (fun c57 hf => ?_)
        · refine x_iload g 4 dX12_gapOf_60 rfl ?_
          refine x_goto g 66 dX12_gapOf_62 (by decide) ?_
          refine x_istore_n (lv' := [(2, .int v4), (0, .ref (Ad 0)), (1, .int v1), (3, .int v3), (4, .int v4)]) g dX12_gapOf_66 rfl (by decide) rfl ?_
          refine x_iinc g 3 (v3 + 1) (lv' := [(3, .int (v3 + 1)), (2, .int v4), (0, .ref (Ad 0)), (1, .int v1), (4, .int v4)]) dX12_gapOf_67 rfl (by rfl) (by decide) rfl ?_
          refine x_goto g 4 dX12_gapOf_70 (by decide) ?_
          exact x_sub [2, 3, 1, 0] rfl (ih4 _ _ hf)
        · refine x_iload_n g 2 dX12_gapOf_65 rfl rfl ?_
          refine x_istore_n (lv' := [(2, .int v2), (0, .ref (Ad 0)), (1, .int v1), (3, .int v3), (4, .int v4)]) g dX12_gapOf_66 rfl (by decide) rfl ?_
          refine x_iinc g 3 (v3 + 1) (lv' := [(3, .int (v3 + 1)), (2, .int v2), (0, .ref (Ad 0)), (1, .int v1), (4, .int v4)]) dX12_gapOf_67 rfl (by rfl) (by decide) rfl ?_
          refine x_goto g 4 dX12_gapOf_70 (by decide) ?_
          exact x_sub [2, 3, 1, 0] rfl (ih4 _ _ hf)
set_option maxHeartbeats 4000000 in
set_option maxRecDepth 100000 in
theorem l_X12_gapOf_L4 {E : EV} {l : Launch} {D : va_G} {cy : Nat → ClassId} {Ad : Nat → Nat} {out : St × Option Value} {o : Int32} (hA : AdOK 37 Ad) (xl : XL E l D (AdA 37 Ad)) (g : XG E (wM cy Ad) cy cX12_gapOf RX12 5 1 (some .int) out) (σ : St) (v1 : Int32) (ho : out = (σ, (some (.int o)))) : ∀ (n : Nat) (v2 : Int32) (v3 : Int32), f_X12_gapOf_L4 σ v1 n v2 v3 = some o → XJ E (wM cy Ad σ) 4 [(0, .ref (Ad 0)), (1, .int v1), (2, .int v2), (3, .int v3)] [] := by
  intro n
  induction n with
  | zero => intro _ _ hf; cases hf
  | succ n ih4 =>
    intro v2 v3 hf
    replace hf : f_X12_gapOf_L4b σ v1 (f_X12_gapOf_L4 σ v1 n) v2 v3 = some o := hf
    unfold f_X12_gapOf_L4b at hf
    refine x_iload_n g 3 dX12_gapOf_4 rfl rfl ?_
    refine x_aload_n g 0 dX12_gapOf_5 rfl rfl ?_
    refine x_get g fl_X12_185 wm_0 rfl dX12_gapOf_6 ?_
    refine x_icmp_ge g 73 dX12_gapOf_9 (by decide) hf (fun c9 hf => ?_) (fun c9 hf => ?_)
    · refine x_iconst g 1 dX12_gapOf_12 (by decide) ?_
      refine x_istore (lv' := [(4, .int 1), (0, .ref (Ad 0)), (1, .int v1), (2, .int v2), (3, .int v3)]) g dX12_gapOf_13 (by decide) rfl ?_
      exact x_sub [1, 2, 3, 4, 0] rfl (l_X12_gapOf_L15 hA xl g _ _ _ _ ho ih4 FU _ hf)
    · refine x_iload_n g 2 dX12_gapOf_73 rfl rfl ?_
      cases hf
      exact x_iret g rfl ho dX12_gapOf_74
set_option maxHeartbeats 4000000 in
set_option maxRecDepth 100000 in
theorem c_X12_gapOf {l : Launch} {D : va_G} {cy : Nat → ClassId} {Ad : Nat → Nat} (hA : AdOK 37 Ad) {σ : St} {p1 : Int32} {o : Int32} (hf : f_X12_gapOf σ p1 = some o) : CT l (wM cy Ad) D cy (AdA 37 Ad) yX12_gapOf cX12_gapOf 5 (some .int) 1 [.ref (Ad 0), .int p1] σ (σ, (some (.int o))) := by
  refine CT.of mf_X12_gapOf (wM_D hA) (Nat.le_of_ble_eq_true rfl) ?_
  intro E xl g
  have ho : ((σ, (some (.int o))) : St × Option Value) = (σ, (some (.int o))) := rfl
  unfold f_X12_gapOf at hf
  show XJ E (wM cy Ad σ) 0 [(0, .ref (Ad 0)), (1, .int p1)] []
  refine x_iconst g 0 dX12_gapOf_0 (by decide) ?_
  refine x_istore_n (lv' := [(2, .int 0), (0, .ref (Ad 0)), (1, .int p1)]) g dX12_gapOf_1 rfl (by decide) rfl ?_
  refine x_iconst g 0 dX12_gapOf_2 (by decide) ?_
  refine x_istore_n (lv' := [(3, .int 0), (2, .int 0), (0, .ref (Ad 0)), (1, .int p1)]) g dX12_gapOf_3 rfl (by decide) rfl ?_
  exact x_sub [2, 3, 1, 0] rfl (l_X12_gapOf_L4 hA xl g _ _ ho FU _ _ hf)
/-! SlotChipModel.isLesser(II)Z -/
def f_X12_isLesser_L2b (v0 : Int32) (v1 : Int32) (K2 : Int32 → Option Int32) (v2 : Int32) : Option Int32 :=
  (f_X12_isBit v0 v2).bind fun r1 =>
  (f_X12_isBit v1 v2).bind fun r2 =>
  if r1 = r2 then
    K2 (v2 + 1)
  else
    ((f_X12_isBit v0 v2).bind fun r3 =>
    chk (isZ r3) (some r3))
def f_X12_isLesser_L2 (v0 : Int32) (v1 : Int32) : Nat → Int32 → Option Int32
  | 0 => fun _ => none
  | n + 1 => f_X12_isLesser_L2b v0 v1 (f_X12_isLesser_L2 v0 v1 n)
def f_X12_isLesser (p1 : Int32) (p2 : Int32) : Option Int32 :=
  f_X12_isLesser_L2 p1 p2 FU 0
set_option maxHeartbeats 4000000 in
set_option maxRecDepth 100000 in
theorem l_X12_isLesser_L2 {E : EV} {l : Launch} {D : va_G} {cy : Nat → ClassId} {Ad : Nat → Nat} {out : St × Option Value} {o : Int32} (hA : AdOK 37 Ad) (xl : XL E l D (AdA 37 Ad)) (g : XG E (wM cy Ad) cy cX12_isLesser RX12 3 1 (some .boolean) out) (v0 : Int32) (v1 : Int32) (σ : St) (ho : out = (σ, (some (.int o)))) : ∀ (n : Nat) (v2 : Int32), f_X12_isLesser_L2 v0 v1 n v2 = some o → XJ E (wM cy Ad σ) 2 [(0, .int v0), (1, .int v1), (2, .int v2)] [] := by
  intro n
  induction n with
  | zero => intro _ hf; cases hf
  | succ n ih2 =>
    intro v2 hf
    replace hf : f_X12_isLesser_L2b v0 v1 (f_X12_isLesser_L2 v0 v1 n) v2 = some o := hf
    unfold f_X12_isLesser_L2b at hf
    refine x_iload_n g 0 dX12_isLesser_2 rfl rfl ?_
    refine x_iload_n g 2 dX12_isLesser_3 rfl rfl ?_
    obtain ⟨r1, hgr1, hf⟩ := obind hf
    refine x_callS g xl [.int v0, .int v2] [] [.int r1] (c_X12_isBit hA hgr1) mf_X12_isBit sm_X12_isBit ml_X12_200 (by decide) (by decide) rfl (Nat.le_of_ble_eq_true rfl) dX12_isLesser_4 rfl rfl ?_
    refine x_iload_n g 1 dX12_isLesser_7 rfl rfl ?_
    refine x_iload_n g 2 dX12_isLesser_8 rfl rfl ?_
    obtain ⟨r2, hgr2, hf⟩ := obind hf
    refine x_callS g xl [.int v1, .int v2] [.int r1] [.int r2, .int r1] (c_X12_isBit hA hgr2) mf_X12_isBit sm_X12_isBit ml_X12_200 (by decide) (by decide) rfl (Nat.le_of_ble_eq_true rfl) dX12_isLesser_9 rfl rfl ?_
    refine x_icmp_ne g 21 dX12_isLesser_12 (by decide) hf (fun c12 hf => ?_) (fun c12 hf => ?_)
    · refine x_iinc g 2 (v2 + 1) (lv' := [(2, .int (v2 + 1)), (0, .int v0), (1, .int v1)]) dX12_isLesser_15 rfl (by rfl) (by decide) rfl ?_
      refine x_goto g 2 dX12_isLesser_18 (by decide) ?_
      exact x_sub [1, 2, 0] rfl (ih2 _ hf)
    · refine x_iload_n g 0 dX12_isLesser_21 rfl rfl ?_
      refine x_iload_n g 2 dX12_isLesser_22 rfl rfl ?_
      obtain ⟨r3, hgr3, hf⟩ := obind hf
      refine x_callS g xl [.int v0, .int v2] [] [.int r3] (c_X12_isBit hA hgr3) mf_X12_isBit sm_X12_isBit ml_X12_200 (by decide) (by decide) rfl (Nat.le_of_ble_eq_true rfl) dX12_isLesser_23 rfl rfl ?_
      have hb := isZ_and (chk_some hf).1
      replace hf := (chk_some hf).2
      cases hf
      exact x_zret g rfl hb ho dX12_isLesser_26
set_option maxHeartbeats 4000000 in
set_option maxRecDepth 100000 in
theorem c_X12_isLesser {l : Launch} {D : va_G} {cy : Nat → ClassId} {Ad : Nat → Nat} (hA : AdOK 37 Ad) {σ : St} {p1 : Int32} {p2 : Int32} {o : Int32} (hf : f_X12_isLesser p1 p2 = some o) : CT l (wM cy Ad) D cy (AdA 37 Ad) yX12_isLesser cX12_isLesser 3 (some .boolean) 1 [.int p1, .int p2] σ (σ, (some (.int o))) := by
  refine CT.of mf_X12_isLesser (wM_D hA) (Nat.le_of_ble_eq_true rfl) ?_
  intro E xl g
  have ho : ((σ, (some (.int o))) : St × Option Value) = (σ, (some (.int o))) := rfl
  unfold f_X12_isLesser at hf
  show XJ E (wM cy Ad σ) 0 [(0, .int p1), (1, .int p2)] []
  refine x_iconst g 0 dX12_isLesser_0 (by decide) ?_
  refine x_istore_n (lv' := [(2, .int 0), (0, .int p1), (1, .int p2)]) g dX12_isLesser_1 rfl (by decide) rfl ?_
  exact x_sub [1, 2, 0] rfl (l_X12_isLesser_L2 hA xl g _ _ _ ho FU _ hf)
/-! SlotChipModel.spreadStarts(II)I -/
def f_X12_spreadStarts_L9b (σ : St) (v1 : Int32) (v2 : Int32) (K9 : Int32 → Int32 → Int32 → Option Int32) (v3 : Int32) (v4 : Int32) (v5 : Int32) : Option Int32 :=
  if v5 < (1 <<< ((σ.1 0 0 2) &&& 31)) then
    (if (v5 &&& v1) = v5 then
      ((f_X12_size v5).bind fun r1 =>
      if r1 = v2 then
        ((f_X12_gapOf σ v5).bind fun r2 =>
        if v4 ≤ r2 then
          (if r2 = v4 then
            ((f_X12_isLesser v5 v3).bind fun r3 =>
            if r3 = 0 then
              K9 v3 v4 (v5 + 1)
            else
              K9 v5 r2 (v5 + 1))
          else
            K9 v3 v4 (v5 + 1))
        else
          K9 v5 r2 (v5 + 1))
      else
        K9 v3 v4 (v5 + 1))
    else
      K9 v3 v4 (v5 + 1))
  else
    some v3
def f_X12_spreadStarts_L9 (σ : St) (v1 : Int32) (v2 : Int32) : Nat → Int32 → Int32 → Int32 → Option Int32
  | 0 => fun _ _ _ => none
  | n + 1 => f_X12_spreadStarts_L9b σ v1 v2 (f_X12_spreadStarts_L9 σ v1 v2 n)
def f_X12_spreadStarts (σ : St) (p1 : Int32) (p2 : Int32) : Option Int32 :=
  f_X12_spreadStarts_L9 σ p1 p2 FU (-1) 268435456 1
set_option maxHeartbeats 4000000 in
set_option maxRecDepth 100000 in
theorem l_X12_spreadStarts_L9 {E : EV} {l : Launch} {D : va_G} {cy : Nat → ClassId} {Ad : Nat → Nat} {out : St × Option Value} {o : Int32} (hA : AdOK 37 Ad) (xl : XL E l D (AdA 37 Ad)) (g : XG E (wM cy Ad) cy cX12_spreadStarts RX12 7 2 (some .int) out) (σ : St) (v1 : Int32) (v2 : Int32) (ho : out = (σ, (some (.int o)))) : ∀ (n : Nat) (v3 : Int32) (v4 : Int32) (v5 : Int32), f_X12_spreadStarts_L9 σ v1 v2 n v3 v4 v5 = some o → XJ E (wM cy Ad σ) 9 [(0, .ref (Ad 0)), (1, .int v1), (2, .int v2), (3, .int v3), (4, .int v4), (5, .int v5)] [] := by
  intro n
  induction n with
  | zero => intro _ _ _ hf; cases hf
  | succ n ih9 =>
    intro v3 v4 v5 hf
    replace hf : f_X12_spreadStarts_L9b σ v1 v2 (f_X12_spreadStarts_L9 σ v1 v2 n) v3 v4 v5 = some o := hf
    unfold f_X12_spreadStarts_L9b at hf
    refine x_iload g 5 dX12_spreadStarts_9 rfl ?_
    refine x_iconst g 1 dX12_spreadStarts_11 (by decide) ?_
    refine x_aload_n g 0 dX12_spreadStarts_12 rfl rfl ?_
    refine x_get g fl_X12_185 wm_0 rfl dX12_spreadStarts_13 ?_
    refine x_ishl g dX12_spreadStarts_16 ?_
    refine x_icmp_ge g 82 dX12_spreadStarts_17 (by decide) hf (fun c17 hf => ?_) (fun c17 hf => ?_)
    · refine x_iload g 5 dX12_spreadStarts_20 rfl ?_
      refine x_iload_n g 1 dX12_spreadStarts_22 rfl rfl ?_
      refine x_iand g dX12_spreadStarts_23 ?_
      refine x_iload g 5 dX12_spreadStarts_24 rfl ?_
      refine x_icmp_ne g 76 dX12_spreadStarts_26 (by decide) hf (fun c26 hf => ?_) (fun c26 hf => ?_)
      · refine x_iload g 5 dX12_spreadStarts_29 rfl ?_
        obtain ⟨r1, hgr1, hf⟩ := obind hf
        refine x_callS g xl [.int v5] [] [.int r1] (c_X12_size hA hgr1) mf_X12_size sm_X12_size ml_X12_216 (by decide) (by decide) rfl (Nat.le_of_ble_eq_true rfl) dX12_spreadStarts_31 rfl rfl ?_
        refine x_iload_n g 2 dX12_spreadStarts_34 rfl rfl ?_
        refine x_icmp_ne g 76 dX12_spreadStarts_35 (by decide) hf (fun c35 hf => ?_) (fun c35 hf => ?_)
        · refine x_aload_n g 0 dX12_spreadStarts_38 rfl rfl ?_
          refine x_iload g 5 dX12_spreadStarts_39 rfl ?_
          obtain ⟨r2, hgr2, hf⟩ := obind hf
          refine x_callV (r := (RX12, TX12, 53)) g xl [.int v5] [] [.int r2] (c_X12_gapOf hA hgr2) mf_X12_gapOf im_X12_gapOf se_X12_gapOf ml_X12_220 rfl wm_0 (by decide) (by decide) rfl (Nat.le_of_ble_eq_true rfl) dX12_spreadStarts_41 rfl rfl ?_
          refine x_istore (lv' := [(6, .int r2), (0, .ref (Ad 0)), (1, .int v1), (2, .int v2), (3, .int v3), (4, .int v4), (5, .int v5)]) g dX12_spreadStarts_44 (by decide) rfl ?_
          refine x_iload g 0 dX12_spreadStarts_46 rfl ?_
          refine x_iload g 5 dX12_spreadStarts_48 rfl ?_
          refine x_icmp_lt g 69 dX12_spreadStarts_50 (by decide) hf (fun c50 hf => ?_) (fun c50 hf => ?_)
          · refine x_iload g 0 dX12_spreadStarts_53 rfl ?_
            refine x_iload g 5 dX12_spreadStarts_55 rfl ?_
            refine x_icmp_ne g 76 dX12_spreadStarts_57 (by decide) hf (fun c57 hf => ?_) (fun c57 hf => ?_)
            · refine x_iload g 6 dX12_spreadStarts_60 rfl ?_
              refine x_iload_n g 4 dX12_spreadStarts_62 rfl rfl ?_
              obtain ⟨r3, hgr3, hf⟩ := obind hf
              refine x_callS g xl [.int v5, .int v3] [] [.int r3] (c_X12_isLesser hA hgr3) mf_X12_isLesser sm_X12_isLesser ml_X12_223 (by decide) (by decide) rfl (Nat.le_of_ble_eq_true rfl) dX12_spreadStarts_63 rfl rfl ?_
              refine x_if_eq g 76 dX12_spreadStarts_66 (by decide) hf (fun c66 hf => ?_) (fun c66 hf => ?_)
              · refine x_iinc g 6 (v5 + 1) (lv' := [(5, .int (v5 + 1)), (6, .int r2), (0, .ref (Ad 0)), (1, .int v1), (2, .int v2), (3, .int v3), (4, .int v4)]) dX12_spreadStarts_76 rfl (by rfl) (by decide) rfl ?_
                refine x_goto g 9 dX12_spreadStarts_79 (by decide) ?_
                exact x_sub [2, 3, 4, 5, 6, 0] rfl (ih9 _ _ _ hf)
              · refine x_iload g 6 dX12_spreadStarts_69 rfl ?_
                refine x_istore_n (lv' := [(3, .int v5), (6, .int r2), (0, .ref (Ad 0)), (1, .int v1), (2, .int v2), (4, .int v4), (5, .int v5)]) g dX12_spreadStarts_71 rfl (by decide) rfl ?_
                refine x_iload g 1 dX12_spreadStarts_72 rfl ?_
                refine x_istore (lv' := [(4, .int r2), (3, .int v5), (6, .int r2), (0, .ref (Ad 0)), (1, .int v1), (2, .int v2), (5, .int v5)]) g dX12_spreadStarts_74 (by decide) rfl ?_
                refine x_iinc g 6 (v5 + 1) (lv' := [(5, .int (v5 + 1)), (4, .int r2), (3, .int v5), (6, .int r2), (0, .ref (Ad 0)), (1, .int v1), (2, .int v2)]) dX12_spreadStarts_76 rfl (by rfl) (by decide) rfl ?_
                refine x_goto g 9 dX12_spreadStarts_79 (by decide) ?_
                exact x_sub [4, 5, 6, 2, 1, 0] rfl (ih9 _ _ _ hf)
            · refine x_iinc g 6 (v5 + 1) (lv' := [(5, .int (v5 + 1)), (6, .int r2), (0, .ref (Ad 0)), (1, .int v1), (2, .int v2), (3, .int v3), (4, .int v4)]) dX12_spreadStarts_76 rfl (by rfl) (by decide) rfl ?_
              refine x_goto g 9 dX12_spreadStarts_79 (by decide) ?_
              exact x_sub [2, 3, 4, 5, 6, 0] rfl (ih9 _ _ _ hf)
          · refine x_iload g 6 dX12_spreadStarts_69 rfl ?_
            refine x_istore_n (lv' := [(3, .int v5), (6, .int r2), (0, .ref (Ad 0)), (1, .int v1), (2, .int v2), (4, .int v4), (5, .int v5)]) g dX12_spreadStarts_71 rfl (by decide) rfl ?_
            refine x_iload g 1 dX12_spreadStarts_72 rfl ?_
            refine x_istore (lv' := [(4, .int r2), (3, .int v5), (6, .int r2), (0, .ref (Ad 0)), (1, .int v1), (2, .int v2), (5, .int v5)]) g dX12_spreadStarts_74 (by decide) rfl ?_
            refine x_iinc g 6 (v5 + 1) (lv' := [(5, .int (v5 + 1)), (4, .int r2), (3, .int v5), (6, .int r2), (0, .ref (Ad 0)), (1, .int v1), (2, .int v2)]) dX12_spreadStarts_76 rfl (by rfl) (by decide) rfl ?_
            refine x_goto g 9 dX12_spreadStarts_79 (by decide) ?_
            exact x_sub [4, 5, 6, 2, 1, 0] rfl (ih9 _ _ _ hf)
        · refine x_iinc g 5 (v5 + 1) (lv' := [(5, .int (v5 + 1)), (0, .ref (Ad 0)), (1, .int v1), (2, .int v2), (3, .int v3), (4, .int v4)]) dX12_spreadStarts_76 rfl (by rfl) (by decide) rfl ?_
          refine x_goto g 9 dX12_spreadStarts_79 (by decide) ?_
          exact x_sub [1, 2, 3, 4, 5, 0] rfl (ih9 _ _ _ hf)
      · refine x_iinc g 5 (v5 + 1) (lv' := [(5, .int (v5 + 1)), (0, .ref (Ad 0)), (1, .int v1), (2, .int v2), (3, .int v3), (4, .int v4)]) dX12_spreadStarts_76 rfl (by rfl) (by decide) rfl ?_
        refine x_goto g 9 dX12_spreadStarts_79 (by decide) ?_
        exact x_sub [1, 2, 3, 4, 5, 0] rfl (ih9 _ _ _ hf)
    · refine x_iload_n g 3 dX12_spreadStarts_82 rfl rfl ?_
      cases hf
      exact x_iret g rfl ho dX12_spreadStarts_83
set_option maxHeartbeats 4000000 in
set_option maxRecDepth 100000 in
theorem c_X12_spreadStarts {l : Launch} {D : va_G} {cy : Nat → ClassId} {Ad : Nat → Nat} (hA : AdOK 37 Ad) {σ : St} {p1 : Int32} {p2 : Int32} {o : Int32} (hf : f_X12_spreadStarts σ p1 p2 = some o) : CT l (wM cy Ad) D cy (AdA 37 Ad) yX12_spreadStarts cX12_spreadStarts 7 (some .int) 2 [.ref (Ad 0), .int p1, .int p2] σ (σ, (some (.int o))) := by
  refine CT.of mf_X12_spreadStarts (wM_D hA) (Nat.le_of_ble_eq_true rfl) ?_
  intro E xl g
  have ho : ((σ, (some (.int o))) : St × Option Value) = (σ, (some (.int o))) := rfl
  unfold f_X12_spreadStarts at hf
  show XJ E (wM cy Ad σ) 0 [(0, .ref (Ad 0)), (1, .int p1), (2, .int p2)] []
  refine x_iconst g (-1) dX12_spreadStarts_0 (by decide) ?_
  refine x_istore_n (lv' := [(3, .int (-1)), (0, .ref (Ad 0)), (1, .int p1), (2, .int p2)]) g dX12_spreadStarts_1 rfl (by decide) rfl ?_
  refine x_ldc g kc_X12_219 dX12_spreadStarts_2 ?_
  refine x_istore (lv' := [(4, .int 268435456), (3, .int (-1)), (0, .ref (Ad 0)), (1, .int p1), (2, .int p2)]) g dX12_spreadStarts_4 (by decide) rfl ?_
  refine x_iconst g 1 dX12_spreadStarts_6 (by decide) ?_
  refine x_istore (lv' := [(5, .int 1), (4, .int 268435456), (3, .int (-1)), (0, .ref (Ad 0)), (1, .int p1), (2, .int p2)]) g dX12_spreadStarts_7 (by decide) rfl ?_
  exact x_sub [3, 4, 5, 2, 1, 0] rfl (l_X12_spreadStarts_L9 hA xl g _ _ _ ho FU _ _ _ hf)
/-! SlotChipModel.burstStarts(II)I -/
def f_X12_burstStarts_L16b (K2 : Int32 → Option Int32) (σ : St) (v1 : Int32) (v2 : Int32) (v3 : Int32) (K16 : Int32 → Int32 → Option Int32) (v4 : Int32) (v5 : Int32) : Option Int32 :=
  if v5 < v2 then
    (chk (¬ (σ.1 0 0 2) = 0) (
      bnd (v4 ||| (1 <<< ((remI (v3 + v5) (σ.1 0 0 2)) &&& 31))) fun y1 =>
      K16 y1 (v5 + 1)))
  else
    (if (v4 &&& v1) = v4 then
      some v4
    else
      K2 (v3 + 1))
def f_X12_burstStarts_L16 (K2 : Int32 → Option Int32) (σ : St) (v1 : Int32) (v2 : Int32) (v3 : Int32) : Nat → Int32 → Int32 → Option Int32
  | 0 => fun _ _ => none
  | n + 1 => f_X12_burstStarts_L16b K2 σ v1 v2 v3 (f_X12_burstStarts_L16 K2 σ v1 v2 v3 n)
def f_X12_burstStarts_L2b (σ : St) (v1 : Int32) (v2 : Int32) (K2 : Int32 → Option Int32) (v3 : Int32) : Option Int32 :=
  if v3 < (σ.1 0 0 2) then
    f_X12_burstStarts_L16 K2 σ v1 v2 v3 FU 0 0
  else
    some (-1)
def f_X12_burstStarts_L2 (σ : St) (v1 : Int32) (v2 : Int32) : Nat → Int32 → Option Int32
  | 0 => fun _ => none
  | n + 1 => f_X12_burstStarts_L2b σ v1 v2 (f_X12_burstStarts_L2 σ v1 v2 n)
def f_X12_burstStarts (σ : St) (p1 : Int32) (p2 : Int32) : Option Int32 :=
  f_X12_burstStarts_L2 σ p1 p2 FU 0
set_option maxHeartbeats 4000000 in
set_option maxRecDepth 100000 in
theorem l_X12_burstStarts_L16 {E : EV} {l : Launch} {D : va_G} {cy : Nat → ClassId} {Ad : Nat → Nat} {out : St × Option Value} {o : Int32} (hA : AdOK 37 Ad) (xl : XL E l D (AdA 37 Ad)) (g : XG E (wM cy Ad) cy cX12_burstStarts RX12 6 0 (some .int) out) {K2 : Int32 → Option Int32} (σ : St) (v1 : Int32) (v2 : Int32) (v3 : Int32) (ho : out = (σ, (some (.int o)))) (ih2 : ∀ (v3 : Int32), K2 v3 = some o → XJ E (wM cy Ad σ) 2 [(0, .ref (Ad 0)), (1, .int v1), (2, .int v2), (3, .int v3)] []) : ∀ (n : Nat) (v4 : Int32) (v5 : Int32), f_X12_burstStarts_L16 K2 σ v1 v2 v3 n v4 v5 = some o → XJ E (wM cy Ad σ) 16 [(0, .ref (Ad 0)), (1, .int v1), (2, .int v2), (3, .int v3), (4, .int v4), (5, .int v5)] [] := by
  intro n
  induction n with
  | zero => intro _ _ hf; cases hf
  | succ n ih16 =>
    intro v4 v5 hf
    replace hf : f_X12_burstStarts_L16b K2 σ v1 v2 v3 (f_X12_burstStarts_L16 K2 σ v1 v2 v3 n) v4 v5 = some o := hf
    unfold f_X12_burstStarts_L16b at hf
    refine x_iload g 5 dX12_burstStarts_16 rfl ?_
    refine x_iload_n g 2 dX12_burstStarts_18 rfl rfl ?_
    refine x_icmp_ge g 44 dX12_burstStarts_19 (by decide) hf (fun c19 hf => ?_) (fun c19 hf => ?_)
    · refine x_iload g 4 dX12_burstStarts_22 rfl ?_
      refine x_iconst g 1 dX12_burstStarts_24 (by decide) ?_
      refine x_iload_n g 3 dX12_burstStarts_25 rfl rfl ?_
      refine x_iload g 5 dX12_burstStarts_26 rfl ?_
      refine x_iadd g dX12_burstStarts_28 ?_
      refine x_aload_n g 0 dX12_burstStarts_29 rfl rfl ?_
      refine x_get g fl_X12_185 wm_0 rfl dX12_burstStarts_30 ?_
      have hz := (chk_some hf).1
      replace hf := (chk_some hf).2
      refine x_irem g dX12_burstStarts_33 hz ?_
      refine x_ishl g dX12_burstStarts_34 ?_
      refine x_ior g dX12_burstStarts_35 ?_
      refine x_nami hf (fun y1 hf => ?_)
      refine x_istore (lv' := [(4, .int y1), (0, .ref (Ad 0)), (1, .int v1), (2, .int v2), (3, .int v3), (5, .int v5)]) g dX12_burstStarts_36 (by decide) rfl ?_
      refine x_iinc g 5 (v5 + 1) (lv' := [(5, .int (v5 + 1)), (4, .int y1), (0, .ref (Ad 0)), (1, .int v1), (2, .int v2), (3, .int v3)]) dX12_burstStarts_38 rfl (by rfl) (by decide) rfl ?_
      refine x_goto g 16 dX12_burstStarts_41 (by decide) ?_
      exact x_sub [2, 3, 4, 5, 1, 0] rfl (ih16 _ _ hf)
    · refine x_iload g 4 dX12_burstStarts_44 rfl ?_
      refine x_iload_n g 1 dX12_burstStarts_46 rfl rfl ?_
      refine x_iand g dX12_burstStarts_47 ?_
      refine x_iload g 4 dX12_burstStarts_48 rfl ?_
      refine x_icmp_ne g 56 dX12_burstStarts_50 (by decide) hf (fun c50 hf => ?_) (fun c50 hf => ?_)
      · refine x_iload g 4 dX12_burstStarts_53 rfl ?_
        cases hf
        exact x_iret g rfl ho dX12_burstStarts_55
      · refine x_iinc g 3 (v3 + 1) (lv' := [(3, .int (v3 + 1)), (0, .ref (Ad 0)), (1, .int v1), (2, .int v2), (4, .int v4), (5, .int v5)]) dX12_burstStarts_56 rfl (by rfl) (by decide) rfl ?_
        refine x_goto g 2 dX12_burstStarts_59 (by decide) ?_
        exact x_sub [1, 2, 3, 0] rfl (ih2 _ hf)
set_option maxHeartbeats 4000000 in
set_option maxRecDepth 100000 in
theorem l_X12_burstStarts_L2 {E : EV} {l : Launch} {D : va_G} {cy : Nat → ClassId} {Ad : Nat → Nat} {out : St × Option Value} {o : Int32} (hA : AdOK 37 Ad) (xl : XL E l D (AdA 37 Ad)) (g : XG E (wM cy Ad) cy cX12_burstStarts RX12 6 0 (some .int) out) (σ : St) (v1 : Int32) (v2 : Int32) (ho : out = (σ, (some (.int o)))) : ∀ (n : Nat) (v3 : Int32), f_X12_burstStarts_L2 σ v1 v2 n v3 = some o → XJ E (wM cy Ad σ) 2 [(0, .ref (Ad 0)), (1, .int v1), (2, .int v2), (3, .int v3)] [] := by
  intro n
  induction n with
  | zero => intro _ hf; cases hf
  | succ n ih2 =>
    intro v3 hf
    replace hf : f_X12_burstStarts_L2b σ v1 v2 (f_X12_burstStarts_L2 σ v1 v2 n) v3 = some o := hf
    unfold f_X12_burstStarts_L2b at hf
    refine x_iload_n g 3 dX12_burstStarts_2 rfl rfl ?_
    refine x_aload_n g 0 dX12_burstStarts_3 rfl rfl ?_
    refine x_get g fl_X12_185 wm_0 rfl dX12_burstStarts_4 ?_
    refine x_icmp_ge g 62 dX12_burstStarts_7 (by decide) hf (fun c7 hf => ?_) (fun c7 hf => ?_)
    · refine x_iconst g 0 dX12_burstStarts_10 (by decide) ?_
      refine x_istore (lv' := [(4, .int 0), (0, .ref (Ad 0)), (1, .int v1), (2, .int v2), (3, .int v3)]) g dX12_burstStarts_11 (by decide) rfl ?_
      refine x_iconst g 0 dX12_burstStarts_13 (by decide) ?_
      refine x_istore (lv' := [(5, .int 0), (4, .int 0), (0, .ref (Ad 0)), (1, .int v1), (2, .int v2), (3, .int v3)]) g dX12_burstStarts_14 (by decide) rfl ?_
      exact x_sub [2, 3, 4, 5, 1, 0] rfl (l_X12_burstStarts_L16 hA xl g _ _ _ _ ho ih2 FU _ _ hf)
    · refine x_iconst g (-1) dX12_burstStarts_62 (by decide) ?_
      cases hf
      exact x_iret g rfl ho dX12_burstStarts_63
set_option maxHeartbeats 4000000 in
set_option maxRecDepth 100000 in
theorem c_X12_burstStarts {l : Launch} {D : va_G} {cy : Nat → ClassId} {Ad : Nat → Nat} (hA : AdOK 37 Ad) {σ : St} {p1 : Int32} {p2 : Int32} {o : Int32} (hf : f_X12_burstStarts σ p1 p2 = some o) : CT l (wM cy Ad) D cy (AdA 37 Ad) yX12_burstStarts cX12_burstStarts 6 (some .int) 0 [.ref (Ad 0), .int p1, .int p2] σ (σ, (some (.int o))) := by
  refine CT.of mf_X12_burstStarts (wM_D hA) (Nat.le_of_ble_eq_true rfl) ?_
  intro E xl g
  have ho : ((σ, (some (.int o))) : St × Option Value) = (σ, (some (.int o))) := rfl
  unfold f_X12_burstStarts at hf
  show XJ E (wM cy Ad σ) 0 [(0, .ref (Ad 0)), (1, .int p1), (2, .int p2)] []
  refine x_iconst g 0 dX12_burstStarts_0 (by decide) ?_
  refine x_istore_n (lv' := [(3, .int 0), (0, .ref (Ad 0)), (1, .int p1), (2, .int p2)]) g dX12_burstStarts_1 rfl (by decide) rfl ?_
  exact x_sub [1, 2, 3, 0] rfl (l_X12_burstStarts_L2 hA xl g _ _ _ ho FU _ hf)
/-! SlotChipModel.plainStarts(II)I -/
def f_X12_plainStarts_L5b (σ : St) (v1 : Int32) (v2 : Int32) (K5 : Int32 → Int32 → Option Int32) (v3 : Int32) (v4 : Int32) : Option Int32 :=
  if v4 < (σ.1 0 0 2) then
    ((f_X12_size v3).bind fun r1 =>
    if r1 < v2 then
      (bnd (v3 ||| (v1 &&& (1 <<< (v4 &&& 31)))) fun y2 =>
      K5 y2 (v4 + 1))
    else
      ((f_X12_size v3).bind fun r3 =>
      if r3 = v2 then
        some v3
      else
        some (-1)))
  else
    ((f_X12_size v3).bind fun r4 =>
    if r4 = v2 then
      some v3
    else
      some (-1))
def f_X12_plainStarts_L5 (σ : St) (v1 : Int32) (v2 : Int32) : Nat → Int32 → Int32 → Option Int32
  | 0 => fun _ _ => none
  | n + 1 => f_X12_plainStarts_L5b σ v1 v2 (f_X12_plainStarts_L5 σ v1 v2 n)
def f_X12_plainStarts (σ : St) (p1 : Int32) (p2 : Int32) : Option Int32 :=
  f_X12_plainStarts_L5 σ p1 p2 FU 0 0
set_option maxHeartbeats 4000000 in
set_option maxRecDepth 100000 in
theorem l_X12_plainStarts_L5 {E : EV} {l : Launch} {D : va_G} {cy : Nat → ClassId} {Ad : Nat → Nat} {out : St × Option Value} {o : Int32} (hA : AdOK 37 Ad) (xl : XL E l D (AdA 37 Ad)) (g : XG E (wM cy Ad) cy cX12_plainStarts RX12 5 1 (some .int) out) (σ : St) (v1 : Int32) (v2 : Int32) (ho : out = (σ, (some (.int o)))) : ∀ (n : Nat) (v3 : Int32) (v4 : Int32), f_X12_plainStarts_L5 σ v1 v2 n v3 v4 = some o → XJ E (wM cy Ad σ) 5 [(0, .ref (Ad 0)), (1, .int v1), (2, .int v2), (3, .int v3), (4, .int v4)] [] := by
  intro n
  induction n with
  | zero => intro _ _ hf; cases hf
  | succ n ih5 =>
    intro v3 v4 hf
    replace hf : f_X12_plainStarts_L5b σ v1 v2 (f_X12_plainStarts_L5 σ v1 v2 n) v3 v4 = some o := hf
    unfold f_X12_plainStarts_L5b at hf
    refine x_iload g 4 dX12_plainStarts_5 rfl ?_
    refine x_aload_n g 0 dX12_plainStarts_7 rfl rfl ?_
    refine x_get g fl_X12_185 wm_0 rfl dX12_plainStarts_8 ?_
    refine x_icmp_ge g 37 dX12_plainStarts_11 (by decide) hf (fun c11 hf => ?_) (fun c11 hf => ?_)
    · refine x_iload_n g 3 dX12_plainStarts_14 rfl rfl ?_
      obtain ⟨r1, hgr1, hf⟩ := obind hf
      refine x_callS g xl [.int v3] [] [.int r1] (c_X12_size hA hgr1) mf_X12_size sm_X12_size ml_X12_216 (by decide) (by decide) rfl (Nat.le_of_ble_eq_true rfl) dX12_plainStarts_15 rfl rfl ?_
      refine x_iload_n g 2 dX12_plainStarts_18 rfl rfl ?_
      refine x_icmp_ge g 37 dX12_plainStarts_19 (by decide) hf (fun c19 hf => ?_) (fun c19 hf => ?_)
      · refine x_iload_n g 3 dX12_plainStarts_22 rfl rfl ?_
        refine x_iload_n g 1 dX12_plainStarts_23 rfl rfl ?_
        refine x_iconst g 1 dX12_plainStarts_24 (by decide) ?_
        refine x_iload g 4 dX12_plainStarts_25 rfl ?_
        refine x_ishl g dX12_plainStarts_27 ?_
        refine x_iand g dX12_plainStarts_28 ?_
        refine x_ior g dX12_plainStarts_29 ?_
        refine x_nami hf (fun y2 hf => ?_)
        refine x_istore_n (lv' := [(3, .int y2), (0, .ref (Ad 0)), (1, .int v1), (2, .int v2), (4, .int v4)]) g dX12_plainStarts_30 rfl (by decide) rfl ?_
        refine x_iinc g 4 (v4 + 1) (lv' := [(4, .int (v4 + 1)), (3, .int y2), (0, .ref (Ad 0)), (1, .int v1), (2, .int v2)]) dX12_plainStarts_31 rfl (by rfl) (by decide) rfl ?_
        refine x_goto g 5 dX12_plainStarts_34 (by decide) ?_
        exact x_sub [2, 3, 4, 1, 0] rfl (ih5 _ _ hf)
      · refine x_iload_n g 3 dX12_plainStarts_37 rfl rfl ?_
        obtain ⟨r3, hgr3, hf⟩ := obind hf
        refine x_callS g xl [.int v3] [] [.int r3] (c_X12_size hA hgr3) mf_X12_size sm_X12_size ml_X12_216 (by decide) (by decide) rfl (Nat.le_of_ble_eq_true rfl) dX12_plainStarts_38 rfl rfl ?_
        refine x_iload_n g 2 dX12_plainStarts_41 rfl rfl ?_
        refine x_icmp_ne g 49 dX12_plainStarts_42 (by decide) hf (fun c42 hf => ?_) (fun c42 hf => ?_)
        · refine x_iload_n g 3 dX12_plainStarts_45 rfl rfl ?_
          refine x_goto g 50 dX12_plainStarts_46 (by decide) ?_
          cases hf
          exact x_iret g rfl ho dX12_plainStarts_50
        · refine x_iconst g (-1) dX12_plainStarts_49 (by decide) ?_
          cases hf
          exact x_iret g rfl ho dX12_plainStarts_50
    · refine x_iload_n g 3 dX12_plainStarts_37 rfl rfl ?_
      obtain ⟨r4, hgr4, hf⟩ := obind hf
      refine x_callS g xl [.int v3] [] [.int r4] (c_X12_size hA hgr4) mf_X12_size sm_X12_size ml_X12_216 (by decide) (by decide) rfl (Nat.le_of_ble_eq_true rfl) dX12_plainStarts_38 rfl rfl ?_
      refine x_iload_n g 2 dX12_plainStarts_41 rfl rfl ?_
      refine x_icmp_ne g 49 dX12_plainStarts_42 (by decide) hf (fun c42 hf => ?_) (fun c42 hf => ?_)
      · refine x_iload_n g 3 dX12_plainStarts_45 rfl rfl ?_
        refine x_goto g 50 dX12_plainStarts_46 (by decide) ?_
        cases hf
        exact x_iret g rfl ho dX12_plainStarts_50
      · refine x_iconst g (-1) dX12_plainStarts_49 (by decide) ?_
        cases hf
        exact x_iret g rfl ho dX12_plainStarts_50
set_option maxHeartbeats 4000000 in
set_option maxRecDepth 100000 in
theorem c_X12_plainStarts {l : Launch} {D : va_G} {cy : Nat → ClassId} {Ad : Nat → Nat} (hA : AdOK 37 Ad) {σ : St} {p1 : Int32} {p2 : Int32} {o : Int32} (hf : f_X12_plainStarts σ p1 p2 = some o) : CT l (wM cy Ad) D cy (AdA 37 Ad) yX12_plainStarts cX12_plainStarts 5 (some .int) 1 [.ref (Ad 0), .int p1, .int p2] σ (σ, (some (.int o))) := by
  refine CT.of mf_X12_plainStarts (wM_D hA) (Nat.le_of_ble_eq_true rfl) ?_
  intro E xl g
  have ho : ((σ, (some (.int o))) : St × Option Value) = (σ, (some (.int o))) := rfl
  unfold f_X12_plainStarts at hf
  show XJ E (wM cy Ad σ) 0 [(0, .ref (Ad 0)), (1, .int p1), (2, .int p2)] []
  refine x_iconst g 0 dX12_plainStarts_0 (by decide) ?_
  refine x_istore_n (lv' := [(3, .int 0), (0, .ref (Ad 0)), (1, .int p1), (2, .int p2)]) g dX12_plainStarts_1 rfl (by decide) rfl ?_
  refine x_iconst g 0 dX12_plainStarts_2 (by decide) ?_
  refine x_istore (lv' := [(4, .int 0), (3, .int 0), (0, .ref (Ad 0)), (1, .int p1), (2, .int p2)]) g dX12_plainStarts_3 (by decide) rfl ?_
  exact x_sub [2, 3, 4, 1, 0] rfl (l_X12_plainStarts_L5 hA xl g _ _ _ ho FU _ _ hf)
/-! SlotChipModel.startsFor(III)I -/
def f_X12_startsFor (σ : St) (p1 : Int32) (p2 : Int32) (p3 : Int32) : Option Int32 :=
  if p1 = 1 then
    ((f_X12_spreadStarts σ p3 p2).bind fun r1 =>
    some r1)
  else
    (if p1 = 2 then
      ((f_X12_spreadStarts σ p3 p2).bind fun r2 =>
      some r2)
    else
      (if p1 = 3 then
        ((f_X12_burstStarts σ p3 p2).bind fun r3 =>
        some r3)
      else
        ((f_X12_plainStarts σ p3 p2).bind fun r4 =>
        some r4)))
set_option maxHeartbeats 4000000 in
set_option maxRecDepth 100000 in
theorem c_X12_startsFor {l : Launch} {D : va_G} {cy : Nat → ClassId} {Ad : Nat → Nat} (hA : AdOK 37 Ad) {σ : St} {p1 : Int32} {p2 : Int32} {p3 : Int32} {o : Int32} (hf : f_X12_startsFor σ p1 p2 p3 = some o) : CT l (wM cy Ad) D cy (AdA 37 Ad) yX12_startsFor cX12_startsFor 4 (some .int) 3 [.ref (Ad 0), .int p1, .int p2, .int p3] σ (σ, (some (.int o))) := by
  refine CT.of mf_X12_startsFor (wM_D hA) (Nat.le_of_ble_eq_true rfl) ?_
  intro E xl g
  have ho : ((σ, (some (.int o))) : St × Option Value) = (σ, (some (.int o))) := rfl
  unfold f_X12_startsFor at hf
  show XJ E (wM cy Ad σ) 0 [(0, .ref (Ad 0)), (1, .int p1), (2, .int p2), (3, .int p3)] []
  refine x_iload_n g 1 dX12_startsFor_0 rfl rfl ?_
  refine sp hf (fun n_1_1 hf => ?_) (fun n_1_1 hf => ?_)
  · refine x_tin g 1 27 28 dX12_startsFor_1 n_1_1 (by decide) ?_
    refine x_aload_n g 0 dX12_startsFor_28 rfl rfl ?_
    refine x_iload_n g 3 dX12_startsFor_29 rfl rfl ?_
    refine x_iload_n g 2 dX12_startsFor_30 rfl rfl ?_
    obtain ⟨r1, hgr1, hf⟩ := obind hf
    refine x_callV (r := (RX12, TX12, 53)) g xl [.int p3, .int p2] [] [.int r1] (c_X12_spreadStarts hA hgr1) mf_X12_spreadStarts im_X12_spreadStarts se_X12_spreadStarts ml_X12_226 rfl wm_0 (by decide) (by decide) rfl (Nat.le_of_ble_eq_true rfl) dX12_startsFor_31 rfl rfl ?_
    cases hf
    exact x_iret g rfl ho dX12_startsFor_34
  · refine sp hf (fun n_1_2 hf => ?_) (fun n_1_2 hf => ?_)
    · refine x_tin g 2 27 28 dX12_startsFor_1 n_1_2 (by decide) ?_
      refine x_aload_n g 0 dX12_startsFor_28 rfl rfl ?_
      refine x_iload_n g 3 dX12_startsFor_29 rfl rfl ?_
      refine x_iload_n g 2 dX12_startsFor_30 rfl rfl ?_
      obtain ⟨r2, hgr2, hf⟩ := obind hf
      refine x_callV (r := (RX12, TX12, 53)) g xl [.int p3, .int p2] [] [.int r2] (c_X12_spreadStarts hA hgr2) mf_X12_spreadStarts im_X12_spreadStarts se_X12_spreadStarts ml_X12_226 rfl wm_0 (by decide) (by decide) rfl (Nat.le_of_ble_eq_true rfl) dX12_startsFor_31 rfl rfl ?_
      cases hf
      exact x_iret g rfl ho dX12_startsFor_34
    · refine sp hf (fun n_1_3 hf => ?_) (fun n_1_3 hf => ?_)
      · refine x_tin g 3 34 35 dX12_startsFor_1 n_1_3 (by decide) ?_
        refine x_aload_n g 0 dX12_startsFor_35 rfl rfl ?_
        refine x_iload_n g 3 dX12_startsFor_36 rfl rfl ?_
        refine x_iload_n g 2 dX12_startsFor_37 rfl rfl ?_
        obtain ⟨r3, hgr3, hf⟩ := obind hf
        refine x_callV (r := (RX12, TX12, 53)) g xl [.int p3, .int p2] [] [.int r3] (c_X12_burstStarts hA hgr3) mf_X12_burstStarts im_X12_burstStarts se_X12_burstStarts ml_X12_230 rfl wm_0 (by decide) (by decide) rfl (Nat.le_of_ble_eq_true rfl) dX12_startsFor_38 rfl rfl ?_
        cases hf
        exact x_iret g rfl ho dX12_startsFor_41
      · refine x_tout g 42 dX12_startsFor_1 (by have e1 := tI n_1_1 (by decide : (1 : Int32).toInt = 1); have e2 := tI n_1_2 (by decide : (2 : Int32).toInt = 2); have e3 := tI n_1_3 (by decide : (3 : Int32).toInt = 3); omega) (by decide) ?_
        refine x_aload_n g 0 dX12_startsFor_42 rfl rfl ?_
        refine x_iload_n g 3 dX12_startsFor_43 rfl rfl ?_
        refine x_iload_n g 2 dX12_startsFor_44 rfl rfl ?_
        obtain ⟨r4, hgr4, hf⟩ := obind hf
        refine x_callV (r := (RX12, TX12, 53)) g xl [.int p3, .int p2] [] [.int r4] (c_X12_plainStarts hA hgr4) mf_X12_plainStarts im_X12_plainStarts se_X12_plainStarts ml_X12_233 rfl wm_0 (by decide) (by decide) rfl (Nat.le_of_ble_eq_true rfl) dX12_startsFor_45 rfl rfl ?_
        cases hf
        exact x_iret g rfl ho dX12_startsFor_48
/-! SlotChipModel.findWay(IIIII)I -/
def f_X12_findWay_L16b (K6 : St → Int32 → Int32 → Option (St × Int32)) (v1 : Int32) (v2 : Int32) (v3 : Int32) (v4 : Int32) (v5 : Int32) (v7 : Int32) (K16 : St → Int32 → Int32 → Option (St × Int32)) (σ : St) (v6 : Int32) (v8 : Int32) : Option (St × Int32) :=
  (f_X12_ways v7).bind fun r1 =>
  if v8 < r1 then
    ((f_X12_isWay σ v2 v3 v7 v8).bind fun (σ3, r2) =>
    if r2 = 0 then
      K16 σ3 v6 (v8 + 1)
    else
      ((f_X12_freeStarts σ3 v5).bind fun r4 =>
      (f_X12_startsFor σ3 v1 v4 r4).bind fun r5 =>
      if r5 = (-1) then
        K16 σ3 1 (v8 + 1)
      else
        some (σ3, r5)))
  else
    (if v6 = 0 then
      K6 σ v6 (v7 + 1)
    else
      (if v1 = 2 then
        K6 σ v6 (v7 + 1)
      else
        some (σ, (-1))))
def f_X12_findWay_L16 (K6 : St → Int32 → Int32 → Option (St × Int32)) (v1 : Int32) (v2 : Int32) (v3 : Int32) (v4 : Int32) (v5 : Int32) (v7 : Int32) : Nat → St → Int32 → Int32 → Option (St × Int32)
  | 0 => fun _ _ _ => none
  | n + 1 => f_X12_findWay_L16b K6 v1 v2 v3 v4 v5 v7 (f_X12_findWay_L16 K6 v1 v2 v3 v4 v5 v7 n)
def f_X12_findWay_L6b (v1 : Int32) (v2 : Int32) (v3 : Int32) (v4 : Int32) (v5 : Int32) (K6 : St → Int32 → Int32 → Option (St × Int32)) (σ : St) (v6 : Int32) (v7 : Int32) : Option (St × Int32) :=
  if v7 ≤ 6 then
    f_X12_findWay_L16 K6 v1 v2 v3 v4 v5 v7 FU σ v6 0
  else
    some (σ, (-1))
def f_X12_findWay_L6 (v1 : Int32) (v2 : Int32) (v3 : Int32) (v4 : Int32) (v5 : Int32) : Nat → St → Int32 → Int32 → Option (St × Int32)
  | 0 => fun _ _ _ => none
  | n + 1 => f_X12_findWay_L6b v1 v2 v3 v4 v5 (f_X12_findWay_L6 v1 v2 v3 v4 v5 n)
def f_X12_findWay (σ : St) (p1 : Int32) (p2 : Int32) (p3 : Int32) (p4 : Int32) (p5 : Int32) : Option (St × Int32) :=
  f_X12_findWay_L6 p1 p2 p3 p4 p5 FU σ 0 1
set_option maxHeartbeats 4000000 in
set_option maxRecDepth 100000 in
theorem l_X12_findWay_L16 {E : EV} {l : Launch} {D : va_G} {cy : Nat → ClassId} {Ad : Nat → Nat} {out : St × Option Value} {o : (St × Int32)} (hA : AdOK 37 Ad) (xl : XL E l D (AdA 37 Ad)) (g : XG E (wM cy Ad) cy cX12_findWay RX12 10 4 (some .int) out) {K6 : St → Int32 → Int32 → Option (St × Int32)} (v1 : Int32) (v2 : Int32) (v3 : Int32) (v4 : Int32) (v5 : Int32) (v7 : Int32) (ho : out = (o.1, (some (.int o.2)))) (ih6 : ∀ (σ : St) (v6 : Int32) (v7 : Int32), K6 σ v6 v7 = some o → XJ E (wM cy Ad σ) 6 [(0, .ref (Ad 0)), (1, .int v1), (2, .int v2), (3, .int v3), (4, .int v4), (5, .int v5), (6, .int v6), (7, .int v7)] []) : ∀ (n : Nat) (σ : St) (v6 : Int32) (v8 : Int32), f_X12_findWay_L16 K6 v1 v2 v3 v4 v5 v7 n σ v6 v8 = some o → XJ E (wM cy Ad σ) 16 [(0, .ref (Ad 0)), (1, .int v1), (2, .int v2), (3, .int v3), (4, .int v4), (5, .int v5), (6, .int v6), (7, .int v7), (8, .int v8)] [] := by
  intro n
  induction n with
  | zero => intro _ _ _ hf; cases hf
  | succ n ih16 =>
    intro σ v6 v8 hf
    replace hf : f_X12_findWay_L16b K6 v1 v2 v3 v4 v5 v7 (f_X12_findWay_L16 K6 v1 v2 v3 v4 v5 v7 n) σ v6 v8 = some o := hf
    unfold f_X12_findWay_L16b at hf
    refine x_iload g 8 dX12_findWay_16 rfl ?_
    refine x_iload g 7 dX12_findWay_18 rfl ?_
    obtain ⟨r1, hgr1, hf⟩ := obind hf
    refine x_callS g xl [.int v7] [.int v8] [.int r1, .int v8] (c_X12_ways hA hgr1) mf_X12_ways sm_X12_ways ml_X12_210 (by decide) (by decide) rfl (Nat.le_of_ble_eq_true rfl) dX12_findWay_20 rfl rfl ?_
    refine x_icmp_ge g 72 dX12_findWay_23 (by decide) hf (fun c23 hf => ?_) (fun c23 hf => ?_)
    · refine x_aload_n g 0 dX12_findWay_26 rfl rfl ?_
      refine x_iload_n g 2 dX12_findWay_27 rfl rfl ?_
      refine x_iload_n g 3 dX12_findWay_28 rfl rfl ?_
      refine x_iload g 7 dX12_findWay_29 rfl ?_
      refine x_iload g 8 dX12_findWay_31 rfl ?_
      obtain ⟨⟨σ3, r2⟩, hgr2, hf⟩ := obind hf
      refine x_callV (r := (RX12, TX12, 53)) g xl [.int v2, .int v3, .int v7, .int v8] [] [.int r2] (c_X12_isWay hA hgr2) mf_X12_isWay im_X12_isWay se_X12_isWay ml_X12_236 rfl wm_0 (by decide) (by decide) rfl (Nat.le_of_ble_eq_true rfl) dX12_findWay_33 rfl rfl ?_
      refine x_if_eq g 66 dX12_findWay_36 (by decide) hf (fun c36 hf => ?_) (fun c36 hf => ?_)
      · refine x_iinc g 8 (v8 + 1) (lv' := [(8, .int (v8 + 1)), (0, .ref (Ad 0)), (1, .int v1), (2, .int v2), (3, .int v3), (4, .int v4), (5, .int v5), (6, .int v6), (7, .int v7)]) dX12_findWay_66 rfl (by rfl) (by decide) rfl ?_
        refine x_goto g 16 dX12_findWay_69 (by decide) ?_
        exact x_sub [1, 2, 3, 4, 5, 6, 7, 8, 0] rfl (ih16 _ _ _ hf)
      · refine x_iconst g 1 dX12_findWay_39 (by decide) ?_
        refine x_istore (lv' := [(6, .int 1), (0, .ref (Ad 0)), (1, .int v1), (2, .int v2), (3, .int v3), (4, .int v4), (5, .int v5), (7, .int v7), (8, .int v8)]) g dX12_findWay_40 (by decide) rfl ?_
        refine x_aload_n g 1 dX12_findWay_42 rfl rfl ?_
        refine x_iload_n g 2 dX12_findWay_43 rfl rfl ?_
        refine x_iload g 5 dX12_findWay_44 rfl ?_
        refine x_aload_n g 1 dX12_findWay_46 rfl rfl ?_
        refine x_iload g 6 dX12_findWay_47 rfl ?_
        obtain ⟨r4, hgr4, hf⟩ := obind hf
        refine x_callV (r := (RX12, TX12, 53)) g xl [.int v5] [.int v4, .int v1, .ref (Ad 0)] [.int r4, .int v4, .int v1, .ref (Ad 0)] (c_X12_freeStarts hA hgr4) mf_X12_freeStarts im_X12_freeStarts se_X12_freeStarts ml_X12_240 rfl wm_0 (by decide) (by decide) rfl (Nat.le_of_ble_eq_true rfl) dX12_findWay_49 rfl rfl ?_
        obtain ⟨r5, hgr5, hf⟩ := obind hf
        refine x_callV (r := (RX12, TX12, 53)) g xl [.int v1, .int v4, .int r4] [] [.int r5] (c_X12_startsFor hA hgr5) mf_X12_startsFor im_X12_startsFor se_X12_startsFor ml_X12_243 rfl wm_0 (by decide) (by decide) rfl (Nat.le_of_ble_eq_true rfl) dX12_findWay_52 rfl rfl ?_
        refine x_istore (lv' := [(9, .int r5), (6, .int 1), (0, .ref (Ad 0)), (1, .int v1), (2, .int v2), (3, .int v3), (4, .int v4), (5, .int v5), (7, .int v7), (8, .int v8)]) g dX12_findWay_55 (by decide) rfl ?_
        refine x_iload g 0 dX12_findWay_57 rfl ?_
        refine x_iconst g (-1) dX12_findWay_59 (by decide) ?_
        refine x_icmp_eq g 66 dX12_findWay_60 (by decide) hf (fun c60 hf => ?_) (fun c60 hf => ?_)
        · refine x_iinc g 9 (v8 + 1) (lv' := [(8, .int (v8 + 1)), (9, .int r5), (6, .int 1), (0, .ref (Ad 0)), (1, .int v1), (2, .int v2), (3, .int v3), (4, .int v4), (5, .int v5), (7, .int v7)]) dX12_findWay_66 rfl (by rfl) (by decide) rfl ?_
          refine x_goto g 16 dX12_findWay_69 (by decide) ?_
          exact x_sub [3, 4, 5, 6, 7, 8, 2, 9, 0] rfl (ih16 _ _ _ hf)
        · refine x_iload g 0 dX12_findWay_63 rfl ?_
          cases hf
          exact x_iret g rfl ho dX12_findWay_65
    · refine x_iload g 6 dX12_findWay_72 rfl ?_
      refine x_if_eq g 84 dX12_findWay_74 (by decide) hf (fun c74 hf => ?_) (fun c74 hf => ?_)
      · refine x_iinc g 7 (v7 + 1) (lv' := [(7, .int (v7 + 1)), (0, .ref (Ad 0)), (1, .int v1), (2, .int v2), (3, .int v3), (4, .int v4), (5, .int v5), (6, .int v6), (8, .int v8)]) dX12_findWay_84 rfl (by rfl) (by decide) rfl ?_
        refine x_goto g 6 dX12_findWay_87 (by decide) ?_
        exact x_sub [1, 2, 3, 4, 5, 6, 7, 0] rfl (ih6 _ _ _ hf)
      · refine x_iload_n g 1 dX12_findWay_77 rfl rfl ?_
        refine x_iconst g 2 dX12_findWay_78 (by decide) ?_
        refine x_icmp_eq g 84 dX12_findWay_79 (by decide) hf (fun c79 hf => ?_) (fun c79 hf => ?_)
        · refine x_iinc g 7 (v7 + 1) (lv' := [(7, .int (v7 + 1)), (0, .ref (Ad 0)), (1, .int v1), (2, .int v2), (3, .int v3), (4, .int v4), (5, .int v5), (6, .int v6), (8, .int v8)]) dX12_findWay_84 rfl (by rfl) (by decide) rfl ?_
          refine x_goto g 6 dX12_findWay_87 (by decide) ?_
          exact x_sub [1, 2, 3, 4, 5, 6, 7, 0] rfl (ih6 _ _ _ hf)
        · refine x_iconst g (-1) dX12_findWay_82 (by decide) ?_
          cases hf
          exact x_iret g rfl ho dX12_findWay_83
set_option maxHeartbeats 4000000 in
set_option maxRecDepth 100000 in
theorem l_X12_findWay_L6 {E : EV} {l : Launch} {D : va_G} {cy : Nat → ClassId} {Ad : Nat → Nat} {out : St × Option Value} {o : (St × Int32)} (hA : AdOK 37 Ad) (xl : XL E l D (AdA 37 Ad)) (g : XG E (wM cy Ad) cy cX12_findWay RX12 10 4 (some .int) out) (v1 : Int32) (v2 : Int32) (v3 : Int32) (v4 : Int32) (v5 : Int32) (ho : out = (o.1, (some (.int o.2)))) : ∀ (n : Nat) (σ : St) (v6 : Int32) (v7 : Int32), f_X12_findWay_L6 v1 v2 v3 v4 v5 n σ v6 v7 = some o → XJ E (wM cy Ad σ) 6 [(0, .ref (Ad 0)), (1, .int v1), (2, .int v2), (3, .int v3), (4, .int v4), (5, .int v5), (6, .int v6), (7, .int v7)] [] := by
  intro n
  induction n with
  | zero => intro _ _ _ hf; cases hf
  | succ n ih6 =>
    intro σ v6 v7 hf
    replace hf : f_X12_findWay_L6b v1 v2 v3 v4 v5 (f_X12_findWay_L6 v1 v2 v3 v4 v5 n) σ v6 v7 = some o := hf
    unfold f_X12_findWay_L6b at hf
    refine x_iload g 7 dX12_findWay_6 rfl ?_
    refine x_bipush g 6 dX12_findWay_8 (by decide) ?_
    refine x_icmp_gt g 90 dX12_findWay_10 (by decide) hf (fun c10 hf => ?_) (fun c10 hf => ?_)
    · refine x_iconst g 0 dX12_findWay_13 (by decide) ?_
      refine x_istore (lv' := [(8, .int 0), (0, .ref (Ad 0)), (1, .int v1), (2, .int v2), (3, .int v3), (4, .int v4), (5, .int v5), (6, .int v6), (7, .int v7)]) g dX12_findWay_14 (by decide) rfl ?_
      exact x_sub [1, 2, 3, 4, 5, 6, 7, 8, 0] rfl (l_X12_findWay_L16 hA xl g _ _ _ _ _ _ ho ih6 FU _ _ _ hf)
    · refine x_iconst g (-1) dX12_findWay_90 (by decide) ?_
      cases hf
      exact x_iret g rfl ho dX12_findWay_91
set_option maxHeartbeats 4000000 in
set_option maxRecDepth 100000 in
theorem c_X12_findWay {l : Launch} {D : va_G} {cy : Nat → ClassId} {Ad : Nat → Nat} (hA : AdOK 37 Ad) {σ : St} {p1 : Int32} {p2 : Int32} {p3 : Int32} {p4 : Int32} {p5 : Int32} {o : (St × Int32)} (hf : f_X12_findWay σ p1 p2 p3 p4 p5 = some o) : CT l (wM cy Ad) D cy (AdA 37 Ad) yX12_findWay cX12_findWay 10 (some .int) 4 [.ref (Ad 0), .int p1, .int p2, .int p3, .int p4, .int p5] σ (o.1, (some (.int o.2))) := by
  refine CT.of mf_X12_findWay (wM_D hA) (Nat.le_of_ble_eq_true rfl) ?_
  intro E xl g
  have ho : ((o.1, (some (.int o.2))) : St × Option Value) = (o.1, (some (.int o.2))) := rfl
  unfold f_X12_findWay at hf
  show XJ E (wM cy Ad σ) 0 [(0, .ref (Ad 0)), (1, .int p1), (2, .int p2), (3, .int p3), (4, .int p4), (5, .int p5)] []
  refine x_iconst g 0 dX12_findWay_0 (by decide) ?_
  refine x_istore (lv' := [(6, .int 0), (0, .ref (Ad 0)), (1, .int p1), (2, .int p2), (3, .int p3), (4, .int p4), (5, .int p5)]) g dX12_findWay_1 (by decide) rfl ?_
  refine x_iconst g 1 dX12_findWay_3 (by decide) ?_
  refine x_istore (lv' := [(7, .int 1), (6, .int 0), (0, .ref (Ad 0)), (1, .int p1), (2, .int p2), (3, .int p3), (4, .int p4), (5, .int p5)]) g dX12_findWay_4 (by decide) rfl ?_
  exact x_sub [2, 3, 4, 5, 6, 7, 1, 0] rfl (l_X12_findWay_L6 hA xl g _ _ _ _ _ ho FU _ _ _ hf)
/-! SlotChipModel.layWay(II)V -/
def f_X12_layWay_L19b (v1 : Int32) (K19 : St → Int32 → Option St) (σ : St) (v3 : Int32) : Option St :=
  if v3 < ((σ.1 0 0 45) + 2) then
    (chk (inb v3 8) (
      chk (inb ((8 * v1) + v3) 64) (
        bnd (si σ 16 0 (Int32.toNatClampNeg ((8 * v1) + v3)) (σ.1 46 0 (Int32.toNatClampNeg v3))) fun σ3 =>
        K19 σ3 (v3 + 1))))
  else
    some σ
def f_X12_layWay_L19 (v1 : Int32) : Nat → St → Int32 → Option St
  | 0 => fun _ _ => none
  | n + 1 => f_X12_layWay_L19b v1 (f_X12_layWay_L19 v1 n)
def f_X12_layWay (σ : St) (p1 : Int32) (p2 : Int32) : Option St :=
  chk (inb p1 8) (
    bnd (si σ 15 0 (Int32.toNatClampNeg p1) (σ.1 0 0 45)) fun σ1 =>
    chk (inb p1 8) (
      bnd (si σ1 17 0 (Int32.toNatClampNeg p1) p2) fun σ2 =>
      f_X12_layWay_L19 p1 FU σ2 0))
set_option maxHeartbeats 4000000 in
set_option maxRecDepth 100000 in
theorem l_X12_layWay_L19 {E : EV} {l : Launch} {D : va_G} {cy : Nat → ClassId} {Ad : Nat → Nat} {out : St × Option Value} {o : St} (hA : AdOK 37 Ad) (xl : XL E l D (AdA 37 Ad)) (g : XG E (wM cy Ad) cy cX12_layWay RX12 4 0 none out) (v1 : Int32) (ho : out = (o, none)) : ∀ (n : Nat) (σ : St) (v3 : Int32), f_X12_layWay_L19 v1 n σ v3 = some o → XJ E (wM cy Ad σ) 19 [(0, .ref (Ad 0)), (1, .int v1), (3, .int v3)] [] := by
  intro n
  induction n with
  | zero => intro _ _ hf; cases hf
  | succ n ih19 =>
    intro σ v3 hf
    replace hf : f_X12_layWay_L19b v1 (f_X12_layWay_L19 v1 n) σ v3 = some o := hf
    unfold f_X12_layWay_L19b at hf
    refine x_iload_n g 2 dX12_layWay_19 rfl rfl ?_
    refine x_aload_n g 0 dX12_layWay_20 rfl rfl ?_
    refine x_get g fl_X12_213 wm_0 rfl dX12_layWay_21 ?_
    refine x_iconst g 2 dX12_layWay_24 (by decide) ?_
    refine x_iadd g dX12_layWay_25 ?_
    refine x_icmp_ge g 52 dX12_layWay_26 (by decide) hf (fun c26 hf => ?_) (fun c26 hf => ?_)
    · refine x_aload_n g 0 dX12_layWay_29 rfl rfl ?_
      refine x_get g fl_X12_41 wm_0 rfl dX12_layWay_30 ?_
      refine x_bipush g 8 dX12_layWay_33 (by decide) ?_
      refine x_iload_n g 1 dX12_layWay_35 rfl rfl ?_
      refine x_imul g dX12_layWay_36 ?_
      refine x_iload_n g 2 dX12_layWay_37 rfl rfl ?_
      refine x_iadd g dX12_layWay_38 ?_
      refine x_aload_n g 0 dX12_layWay_39 rfl rfl ?_
      refine x_get g fl_X12_107 wm_0 rfl dX12_layWay_40 ?_
      refine x_iload_n g 2 dX12_layWay_43 rfl rfl ?_
      refine x_iald g wm_33 dX12_layWay_44 hf (fun hf => ?_)
      refine x_iastB g wm_11 (sm_11 _ _) dX12_layWay_45 hf (fun σ3 hf => ?_)
      refine x_iinc g 2 (v3 + 1) (lv' := [(3, .int (v3 + 1)), (0, .ref (Ad 0)), (1, .int v1)]) dX12_layWay_46 rfl (by rfl) (by decide) rfl ?_
      refine x_goto g 19 dX12_layWay_49 (by decide) ?_
      exact x_sub [1, 2, 0] rfl (ih19 _ _ hf)
    · cases hf
      exact x_vret g rfl ho dX12_layWay_52
set_option maxHeartbeats 4000000 in
set_option maxRecDepth 100000 in
theorem c_X12_layWay {l : Launch} {D : va_G} {cy : Nat → ClassId} {Ad : Nat → Nat} (hA : AdOK 37 Ad) {σ : St} {p1 : Int32} {p2 : Int32} {o : St} (hf : f_X12_layWay σ p1 p2 = some o) : CT l (wM cy Ad) D cy (AdA 37 Ad) yX12_layWay cX12_layWay 4 none 0 [.ref (Ad 0), .int p1, .int p2] σ (o, none) := by
  refine CT.of mf_X12_layWay (wM_D hA) (Nat.le_of_ble_eq_true rfl) ?_
  intro E xl g
  have ho : ((o, none) : St × Option Value) = (o, none) := rfl
  unfold f_X12_layWay at hf
  show XJ E (wM cy Ad σ) 0 [(0, .ref (Ad 0)), (1, .int p1), (2, .int p2)] []
  refine x_aload_n g 0 dX12_layWay_0 rfl rfl ?_
  refine x_get g fl_X12_38 wm_0 rfl dX12_layWay_1 ?_
  refine x_iload_n g 1 dX12_layWay_4 rfl rfl ?_
  refine x_aload_n g 0 dX12_layWay_5 rfl rfl ?_
  refine x_get g fl_X12_213 wm_0 rfl dX12_layWay_6 ?_
  refine x_iastB g wm_10 (sm_10 _ _) dX12_layWay_9 hf (fun σ1 hf => ?_)
  refine x_aload_n g 0 dX12_layWay_10 rfl rfl ?_
  refine x_get g fl_X12_44 wm_0 rfl dX12_layWay_11 ?_
  refine x_iload_n g 1 dX12_layWay_14 rfl rfl ?_
  refine x_iload_n g 2 dX12_layWay_15 rfl rfl ?_
  refine x_iastB g wm_12 (sm_12 _ _) dX12_layWay_16 hf (fun σ2 hf => ?_)
  refine x_iconst g 0 dX12_layWay_17 (by decide) ?_
  refine x_istore_n (lv' := [(3, .int 0), (0, .ref (Ad 0)), (1, .int p1), (2, .int p2)]) g dX12_layWay_18 rfl (by decide) rfl ?_
  exact x_sub [1, 2, 0] rfl (l_X12_layWay_L19 hA xl g _ ho FU _ _ hf)
/-! SlotChipModel.begin(I)V -/
def f_X12_begin (σ : St) (p1 : Int32) : Option St :=
  chk (inb p1 8) (
    bnd (si σ 9 0 (Int32.toNatClampNeg p1) 1) fun σ1 =>
    chk (inb p1 8) (
      bnd (si σ1 18 0 (Int32.toNatClampNeg p1) 0) fun σ2 =>
      chk (inb p1 8) (
        chk (inb p1 8) (
          bnd (si σ2 19 0 (Int32.toNatClampNeg p1) (σ2.1 14 0 (Int32.toNatClampNeg p1))) fun σ3 =>
          chk (inb p1 8) (
            bnd (si σ3 20 0 (Int32.toNatClampNeg p1) 0) fun σ4 =>
            chk (inb p1 8) (
              bnd (si σ4 21 0 (Int32.toNatClampNeg p1) 0) fun σ5 =>
              chk (inb p1 8) (
                bnd (si σ5 22 0 (Int32.toNatClampNeg p1) 0) fun σ6 =>
                chk (inb p1 8) (
                  bnd (si σ6 23 0 (Int32.toNatClampNeg p1) (-1)) fun σ7 =>
                  chk (inb p1 8) (
                    bnd (si σ7 24 0 (Int32.toNatClampNeg p1) (σ7.1 0 0 3)) fun σ8 =>
                    some σ8)))))))))
set_option maxHeartbeats 4000000 in
set_option maxRecDepth 100000 in
theorem c_X12_begin {l : Launch} {D : va_G} {cy : Nat → ClassId} {Ad : Nat → Nat} (hA : AdOK 37 Ad) {σ : St} {p1 : Int32} {o : St} (hf : f_X12_begin σ p1 = some o) : CT l (wM cy Ad) D cy (AdA 37 Ad) yX12_begin cX12_begin 2 none 0 [.ref (Ad 0), .int p1] σ (o, none) := by
  refine CT.of mf_X12_begin (wM_D hA) (Nat.le_of_ble_eq_true rfl) ?_
  intro E xl g
  have ho : ((o, none) : St × Option Value) = (o, none) := rfl
  unfold f_X12_begin at hf
  show XJ E (wM cy Ad σ) 0 [(0, .ref (Ad 0)), (1, .int p1)] []
  refine x_aload_n g 0 dX12_begin_0 rfl rfl ?_
  refine x_get g fl_X12_20 wm_0 rfl dX12_begin_1 ?_
  refine x_iload_n g 1 dX12_begin_4 rfl rfl ?_
  refine x_iconst g 1 dX12_begin_5 (by decide) ?_
  refine x_zastB g 1 rfl wm_4 (sm_4 _ _) dX12_begin_6 hf (fun σ1 hf => ?_)
  refine x_aload_n g 0 dX12_begin_7 rfl rfl ?_
  refine x_get g fl_X12_47 wm_0 rfl dX12_begin_8 ?_
  refine x_iload_n g 1 dX12_begin_11 rfl rfl ?_
  refine x_iconst g 0 dX12_begin_12 (by decide) ?_
  refine x_iastB g wm_13 (sm_13 _ _) dX12_begin_13 hf (fun σ2 hf => ?_)
  refine x_aload_n g 0 dX12_begin_14 rfl rfl ?_
  refine x_get g fl_X12_50 wm_0 rfl dX12_begin_15 ?_
  refine x_iload_n g 1 dX12_begin_18 rfl rfl ?_
  refine x_aload_n g 0 dX12_begin_19 rfl rfl ?_
  refine x_get g fl_X12_35 wm_0 rfl dX12_begin_20 ?_
  refine x_iload_n g 1 dX12_begin_23 rfl rfl ?_
  refine x_iald g wm_9 dX12_begin_24 hf (fun hf => ?_)
  refine x_iastB g wm_14 (sm_14 _ _) dX12_begin_25 hf (fun σ3 hf => ?_)
  refine x_aload_n g 0 dX12_begin_26 rfl rfl ?_
  refine x_get g fl_X12_53 wm_0 rfl dX12_begin_27 ?_
  refine x_iload_n g 1 dX12_begin_30 rfl rfl ?_
  refine x_iconst g 0 dX12_begin_31 (by decide) ?_
  refine x_iastB g wm_15 (sm_15 _ _) dX12_begin_32 hf (fun σ4 hf => ?_)
  refine x_aload_n g 0 dX12_begin_33 rfl rfl ?_
  refine x_get g fl_X12_56 wm_0 rfl dX12_begin_34 ?_
  refine x_iload_n g 1 dX12_begin_37 rfl rfl ?_
  refine x_iconst g 0 dX12_begin_38 (by decide) ?_
  refine x_iastB g wm_16 (sm_16 _ _) dX12_begin_39 hf (fun σ5 hf => ?_)
  refine x_aload_n g 0 dX12_begin_40 rfl rfl ?_
  refine x_get g fl_X12_59 wm_0 rfl dX12_begin_41 ?_
  refine x_iload_n g 1 dX12_begin_44 rfl rfl ?_
  refine x_iconst g 0 dX12_begin_45 (by decide) ?_
  refine x_iastB g wm_17 (sm_17 _ _) dX12_begin_46 hf (fun σ6 hf => ?_)
  refine x_aload_n g 0 dX12_begin_47 rfl rfl ?_
  refine x_get g fl_X12_62 wm_0 rfl dX12_begin_48 ?_
  refine x_iload_n g 1 dX12_begin_51 rfl rfl ?_
  refine x_iconst g (-1) dX12_begin_52 (by decide) ?_
  refine x_iastB g wm_18 (sm_18 _ _) dX12_begin_53 hf (fun σ7 hf => ?_)
  refine x_aload_n g 0 dX12_begin_54 rfl rfl ?_
  refine x_get g fl_X12_65 wm_0 rfl dX12_begin_55 ?_
  refine x_iload_n g 1 dX12_begin_58 rfl rfl ?_
  refine x_aload_n g 0 dX12_begin_59 rfl rfl ?_
  refine x_get g fl_X12_188 wm_0 rfl dX12_begin_60 ?_
  refine x_iastB g wm_19 (sm_19 _ _) dX12_begin_63 hf (fun σ8 hf => ?_)
  cases hf
  exact x_vret g rfl ho dX12_begin_64
/-! SlotChipModel.open(IIIII)I -/
def f_X12_open (σ : St) (p1 : Int32) (p2 : Int32) (p3 : Int32) (p4 : Int32) (p5 : Int32) : Option (St × Int32) :=
  (f_X12_isChip σ).bind fun r1 =>
  if r1 = 0 then
    some (σ, (-103))
  else
    ((f_X12_isRouter σ p2).bind fun r2 =>
    if r2 = 0 then
      some (σ, (-101))
    else
      ((f_X12_isRouter σ p3).bind fun r3 =>
      if r3 = 0 then
        some (σ, (-101))
      else
        (if p2 = p3 then
          some (σ, (-101))
        else
          ((f_X12_within p1 0 4).bind fun r4 =>
          if r4 = 0 then
            some (σ, (-102))
          else
            ((f_X12_within p4 1 4).bind fun r5 =>
            if r5 = 0 then
              some (σ, (-102))
            else
              ((f_X12_within p5 1 15).bind fun r6 =>
              if r6 = 0 then
                some (σ, (-102))
              else
                ((f_X12_leastFree σ).bind fun r7 =>
                if r7 = 8 then
                  some (σ, (-104))
                else
                  ((f_X12_findWay σ p1 p2 p3 p4 (-1)).bind fun (σ9, r8) =>
                  if r8 = (-1) then
                    some (σ9, (-103))
                  else
                    ((f_X12_layWay σ9 r7 r8).bind fun σ11 =>
                    chk (inb r7 8) (
                      bnd (si σ11 10 0 (Int32.toNatClampNeg r7) p1) fun σ12 =>
                      chk (inb r7 8) (
                        bnd (si σ12 11 0 (Int32.toNatClampNeg r7) p2) fun σ13 =>
                        chk (inb r7 8) (
                          bnd (si σ13 12 0 (Int32.toNatClampNeg r7) p3) fun σ14 =>
                          chk (inb r7 8) (
                            bnd (si σ14 14 0 (Int32.toNatClampNeg r7) p5) fun σ15 =>
                            chk (inb r7 8) (
                              bnd (si σ15 13 0 (Int32.toNatClampNeg r7) p4) fun σ16 =>
                              (f_X12_begin σ16 r7).bind fun σ18 =>
                              some (σ18, r7)))))))))))))))
set_option maxHeartbeats 4000000 in
set_option maxRecDepth 100000 in
theorem c_X12_open {l : Launch} {D : va_G} {cy : Nat → ClassId} {Ad : Nat → Nat} (hA : AdOK 37 Ad) {σ : St} {p1 : Int32} {p2 : Int32} {p3 : Int32} {p4 : Int32} {p5 : Int32} {o : (St × Int32)} (hf : f_X12_open σ p1 p2 p3 p4 p5 = some o) : CT l (wM cy Ad) D cy (AdA 37 Ad) yX12_open cX12_open 8 (some .int) 5 [.ref (Ad 0), .int p1, .int p2, .int p3, .int p4, .int p5] σ (o.1, (some (.int o.2))) := by
  refine CT.of mf_X12_open (wM_D hA) (Nat.le_of_ble_eq_true rfl) ?_
  intro E xl g
  have ho : ((o.1, (some (.int o.2))) : St × Option Value) = (o.1, (some (.int o.2))) := rfl
  unfold f_X12_open at hf
  show XJ E (wM cy Ad σ) 0 [(0, .ref (Ad 0)), (1, .int p1), (2, .int p2), (3, .int p3), (4, .int p4), (5, .int p5)] []
  refine x_aload_n g 0 dX12_open_0 rfl rfl ?_
  obtain ⟨r1, hgr1, hf⟩ := obind hf
  refine x_callV (r := (RX12, TX12, 53)) g xl [] [] [.int r1] (c_X12_isChip hA hgr1) mf_X12_isChip im_X12_isChip se_X12_isChip ml_X12_264 rfl wm_0 (by decide) (by decide) rfl (Nat.le_of_ble_eq_true rfl) dX12_open_1 rfl rfl ?_
  refine x_if_ne g 10 dX12_open_4 (by decide) hf (fun c4 hf => ?_) (fun c4 hf => ?_)
  · refine x_bipush g (-103) dX12_open_7 (by decide) ?_
    cases hf
    exact x_iret g rfl ho dX12_open_9
  · refine x_aload_n g 0 dX12_open_10 rfl rfl ?_
    refine x_iload_n g 2 dX12_open_11 rfl rfl ?_
    obtain ⟨r2, hgr2, hf⟩ := obind hf
    refine x_callV (r := (RX12, TX12, 53)) g xl [.int p2] [] [.int r2] (c_X12_isRouter hA hgr2) mf_X12_isRouter im_X12_isRouter se_X12_isRouter ml_X12_273 rfl wm_0 (by decide) (by decide) rfl (Nat.le_of_ble_eq_true rfl) dX12_open_12 rfl rfl ?_
    refine x_if_eq g 31 dX12_open_15 (by decide) hf (fun c15 hf => ?_) (fun c15 hf => ?_)
    · refine x_bipush g (-101) dX12_open_31 (by decide) ?_
      cases hf
      exact x_iret g rfl ho dX12_open_33
    · refine x_aload_n g 0 dX12_open_18 rfl rfl ?_
      refine x_iload_n g 3 dX12_open_19 rfl rfl ?_
      obtain ⟨r3, hgr3, hf⟩ := obind hf
      refine x_callV (r := (RX12, TX12, 53)) g xl [.int p3] [] [.int r3] (c_X12_isRouter hA hgr3) mf_X12_isRouter im_X12_isRouter se_X12_isRouter ml_X12_273 rfl wm_0 (by decide) (by decide) rfl (Nat.le_of_ble_eq_true rfl) dX12_open_20 rfl rfl ?_
      refine x_if_eq g 31 dX12_open_23 (by decide) hf (fun c23 hf => ?_) (fun c23 hf => ?_)
      · refine x_bipush g (-101) dX12_open_31 (by decide) ?_
        cases hf
        exact x_iret g rfl ho dX12_open_33
      · refine x_iload_n g 2 dX12_open_26 rfl rfl ?_
        refine x_iload_n g 3 dX12_open_27 rfl rfl ?_
        refine x_icmp_ne g 34 dX12_open_28 (by decide) hf (fun c28 hf => ?_) (fun c28 hf => ?_)
        · refine x_bipush g (-101) dX12_open_31 (by decide) ?_
          cases hf
          exact x_iret g rfl ho dX12_open_33
        · refine x_iload_n g 1 dX12_open_34 rfl rfl ?_
          refine x_iconst g 0 dX12_open_35 (by decide) ?_
          refine x_iconst g 4 dX12_open_36 (by decide) ?_
          obtain ⟨r4, hgr4, hf⟩ := obind hf
          refine x_callS g xl [.int p1, .int 0, .int 4] [] [.int r4] (c_X12_within hA hgr4) mf_X12_within sm_X12_within ml_X12_130 (by decide) (by decide) rfl (Nat.le_of_ble_eq_true rfl) dX12_open_37 rfl rfl ?_
          refine x_if_eq g 64 dX12_open_40 (by decide) hf (fun c40 hf => ?_) (fun c40 hf => ?_)
          · refine x_bipush g (-102) dX12_open_64 (by decide) ?_
            cases hf
            exact x_iret g rfl ho dX12_open_66
          · refine x_iload g 4 dX12_open_43 rfl ?_
            refine x_iconst g 1 dX12_open_45 (by decide) ?_
            refine x_iconst g 4 dX12_open_46 (by decide) ?_
            obtain ⟨r5, hgr5, hf⟩ := obind hf
            refine x_callS g xl [.int p4, .int 1, .int 4] [] [.int r5] (c_X12_within hA hgr5) mf_X12_within sm_X12_within ml_X12_130 (by decide) (by decide) rfl (Nat.le_of_ble_eq_true rfl) dX12_open_47 rfl rfl ?_
            refine x_if_eq g 64 dX12_open_50 (by decide) hf (fun c50 hf => ?_) (fun c50 hf => ?_)
            · refine x_bipush g (-102) dX12_open_64 (by decide) ?_
              cases hf
              exact x_iret g rfl ho dX12_open_66
            · refine x_iload g 5 dX12_open_53 rfl ?_
              refine x_iconst g 1 dX12_open_55 (by decide) ?_
              refine x_bipush g 15 dX12_open_56 (by decide) ?_
              obtain ⟨r6, hgr6, hf⟩ := obind hf
              refine x_callS g xl [.int p5, .int 1, .int 15] [] [.int r6] (c_X12_within hA hgr6) mf_X12_within sm_X12_within ml_X12_130 (by decide) (by decide) rfl (Nat.le_of_ble_eq_true rfl) dX12_open_58 rfl rfl ?_
              refine x_if_ne g 67 dX12_open_61 (by decide) hf (fun c61 hf => ?_) (fun c61 hf => ?_)
              · refine x_bipush g (-102) dX12_open_64 (by decide) ?_
                cases hf
                exact x_iret g rfl ho dX12_open_66
              · refine x_aload_n g 0 dX12_open_67 rfl rfl ?_
                obtain ⟨r7, hgr7, hf⟩ := obind hf
                refine x_callV (r := (RX12, TX12, 53)) g xl [] [] [.int r7] (c_X12_leastFree hA hgr7) mf_X12_leastFree im_X12_leastFree se_X12_leastFree ml_X12_276 rfl wm_0 (by decide) (by decide) rfl (Nat.le_of_ble_eq_true rfl) dX12_open_68 rfl rfl ?_
                refine x_istore (lv' := [(6, .int r7), (0, .ref (Ad 0)), (1, .int p1), (2, .int p2), (3, .int p3), (4, .int p4), (5, .int p5)]) g dX12_open_71 (by decide) rfl ?_
                refine x_iload g 0 dX12_open_73 rfl ?_
                refine x_bipush g 8 dX12_open_75 (by decide) ?_
                refine x_icmp_ne g 83 dX12_open_77 (by decide) hf (fun c77 hf => ?_) (fun c77 hf => ?_)
                · refine x_bipush g (-104) dX12_open_80 (by decide) ?_
                  cases hf
                  exact x_iret g rfl ho dX12_open_82
                · refine x_aload_n g 1 dX12_open_83 rfl rfl ?_
                  refine x_iload_n g 2 dX12_open_84 rfl rfl ?_
                  refine x_iload_n g 3 dX12_open_85 rfl rfl ?_
                  refine x_iload_n g 4 dX12_open_86 rfl rfl ?_
                  refine x_iload g 5 dX12_open_87 rfl ?_
                  refine x_iconst g (-1) dX12_open_89 (by decide) ?_
                  obtain ⟨⟨σ9, r8⟩, hgr8, hf⟩ := obind hf
                  refine x_callV (r := (RX12, TX12, 53)) g xl [.int p1, .int p2, .int p3, .int p4, .int (-1)] [] [.int r8] (c_X12_findWay hA hgr8) mf_X12_findWay im_X12_findWay se_X12_findWay ml_X12_279 rfl wm_0 (by decide) (by decide) rfl (Nat.le_of_ble_eq_true rfl) dX12_open_90 rfl rfl ?_
                  refine x_istore (lv' := [(7, .int r8), (6, .int r7), (0, .ref (Ad 0)), (1, .int p1), (2, .int p2), (3, .int p3), (4, .int p4), (5, .int p5)]) g dX12_open_93 (by decide) rfl ?_
                  refine x_iload g 0 dX12_open_95 rfl ?_
                  refine x_iconst g (-1) dX12_open_97 (by decide) ?_
                  refine x_icmp_ne g 104 dX12_open_98 (by decide) hf (fun c98 hf => ?_) (fun c98 hf => ?_)
                  · refine x_bipush g (-103) dX12_open_101 (by decide) ?_
                    cases hf
                    exact x_iret g rfl ho dX12_open_103
                  · refine x_aload_n g 2 dX12_open_104 rfl rfl ?_
                    refine x_iload g 1 dX12_open_105 rfl ?_
                    refine x_iload g 0 dX12_open_107 rfl ?_
                    obtain ⟨σ11, hgr10, hf⟩ := obind hf
                    refine x_callV (r := (RX12, TX12, 53)) g xl [.int r7, .int r8] [] [] (c_X12_layWay hA hgr10) mf_X12_layWay im_X12_layWay se_X12_layWay ml_X12_283 rfl wm_0 (by decide) (by decide) rfl (Nat.le_of_ble_eq_true rfl) dX12_open_109 rfl rfl ?_
                    refine x_aload_n g 2 dX12_open_112 rfl rfl ?_
                    refine x_get g fl_X12_23 wm_0 rfl dX12_open_113 ?_
                    refine x_iload g 1 dX12_open_116 rfl ?_
                    refine x_iload_n g 3 dX12_open_118 rfl rfl ?_
                    refine x_iastB g wm_5 (sm_5 _ _) dX12_open_119 hf (fun σ12 hf => ?_)
                    refine x_aload_n g 2 dX12_open_120 rfl rfl ?_
                    refine x_get g fl_X12_26 wm_0 rfl dX12_open_121 ?_
                    refine x_iload g 1 dX12_open_124 rfl ?_
                    refine x_iload_n g 4 dX12_open_126 rfl rfl ?_
                    refine x_iastB g wm_6 (sm_6 _ _) dX12_open_127 hf (fun σ13 hf => ?_)
                    refine x_aload_n g 2 dX12_open_128 rfl rfl ?_
                    refine x_get g fl_X12_29 wm_0 rfl dX12_open_129 ?_
                    refine x_iload g 1 dX12_open_132 rfl ?_
                    refine x_iload_n g 5 dX12_open_134 rfl rfl ?_
                    refine x_iastB g wm_7 (sm_7 _ _) dX12_open_135 hf (fun σ14 hf => ?_)
                    refine x_aload_n g 2 dX12_open_136 rfl rfl ?_
                    refine x_get g fl_X12_35 wm_0 rfl dX12_open_137 ?_
                    refine x_iload g 1 dX12_open_140 rfl ?_
                    refine x_iload g 7 dX12_open_142 rfl ?_
                    refine x_iastB g wm_9 (sm_9 _ _) dX12_open_144 hf (fun σ15 hf => ?_)
                    refine x_aload_n g 2 dX12_open_145 rfl rfl ?_
                    refine x_get g fl_X12_32 wm_0 rfl dX12_open_146 ?_
                    refine x_iload g 1 dX12_open_149 rfl ?_
                    refine x_iload g 6 dX12_open_151 rfl ?_
                    refine x_iastB g wm_8 (sm_8 _ _) dX12_open_153 hf (fun σ16 hf => ?_)
                    refine x_aload_n g 2 dX12_open_154 rfl rfl ?_
                    refine x_iload g 1 dX12_open_155 rfl ?_
                    obtain ⟨σ18, hgr17, hf⟩ := obind hf
                    refine x_callV (r := (RX12, TX12, 53)) g xl [.int r7] [] [] (c_X12_begin hA hgr17) mf_X12_begin im_X12_begin se_X12_begin ml_X12_287 rfl wm_0 (by decide) (by decide) rfl (Nat.le_of_ble_eq_true rfl) dX12_open_157 rfl rfl ?_
                    refine x_iload g 1 dX12_open_160 rfl ?_
                    cases hf
                    exact x_iret g rfl ho dX12_open_162
/-! SlotChipModel.isCircuit(I)Z -/
def f_X12_isCircuit (σ : St) (p1 : Int32) : Option Int32 :=
  (f_X12_within p1 0 7).bind fun r1 =>
  if r1 = 0 then
    some 0
  else
    (chk (inb p1 8) (
      if (σ.1 9 0 (Int32.toNatClampNeg p1)) = 0 then
        some 0
      else
        some 1))
set_option maxHeartbeats 4000000 in
set_option maxRecDepth 100000 in
theorem c_X12_isCircuit {l : Launch} {D : va_G} {cy : Nat → ClassId} {Ad : Nat → Nat} (hA : AdOK 37 Ad) {σ : St} {p1 : Int32} {o : Int32} (hf : f_X12_isCircuit σ p1 = some o) : CT l (wM cy Ad) D cy (AdA 37 Ad) yX12_isCircuit cX12_isCircuit 2 (some .boolean) 1 [.ref (Ad 0), .int p1] σ (σ, (some (.int o))) := by
  refine CT.of mf_X12_isCircuit (wM_D hA) (Nat.le_of_ble_eq_true rfl) ?_
  intro E xl g
  have ho : ((σ, (some (.int o))) : St × Option Value) = (σ, (some (.int o))) := rfl
  unfold f_X12_isCircuit at hf
  show XJ E (wM cy Ad σ) 0 [(0, .ref (Ad 0)), (1, .int p1)] []
  refine x_iload_n g 1 dX12_isCircuit_0 rfl rfl ?_
  refine x_iconst g 0 dX12_isCircuit_1 (by decide) ?_
  refine x_bipush g 7 dX12_isCircuit_2 (by decide) ?_
  obtain ⟨r1, hgr1, hf⟩ := obind hf
  refine x_callS g xl [.int p1, .int 0, .int 7] [] [.int r1] (c_X12_within hA hgr1) mf_X12_within sm_X12_within ml_X12_130 (by decide) (by decide) rfl (Nat.le_of_ble_eq_true rfl) dX12_isCircuit_4 rfl rfl ?_
  refine x_if_eq g 23 dX12_isCircuit_7 (by decide) hf (fun c7 hf => ?_) (fun c7 hf => ?_)
  · refine x_iconst g 0 dX12_isCircuit_23 (by decide) ?_
    cases hf
    exact x_zret g rfl (by decide) ho dX12_isCircuit_24
  · refine x_aload_n g 0 dX12_isCircuit_10 rfl rfl ?_
    refine x_get g fl_X12_20 wm_0 rfl dX12_isCircuit_11 ?_
    refine x_iload_n g 1 dX12_isCircuit_14 rfl rfl ?_
    refine x_zald g wm_4 dX12_isCircuit_15 hf (fun hf => ?_)
    refine x_if_eq g 23 dX12_isCircuit_16 (by decide) hf (fun c16 hf => ?_) (fun c16 hf => ?_)
    · refine x_iconst g 0 dX12_isCircuit_23 (by decide) ?_
      cases hf
      exact x_zret g rfl (by decide) ho dX12_isCircuit_24
    · refine x_iconst g 1 dX12_isCircuit_19 (by decide) ?_
      refine x_goto g 24 dX12_isCircuit_20 (by decide) ?_
      cases hf
      exact x_zret g rfl (by decide) ho dX12_isCircuit_24
/-! SlotChipModel.as(II)I -/
def f_X12_as (σ : St) (p1 : Int32) (p2 : Int32) : Option Int32 :=
  (f_X12_isCircuit σ p1).bind fun r1 =>
  if r1 = 0 then
    some (-101)
  else
    ((f_X12_within p2 0 4).bind fun r2 =>
    if r2 = 0 then
      some (-102)
    else
      (chk (inb p1 8) (
        bnd (σ.1 10 0 (Int32.toNatClampNeg p1)) fun y3 =>
        if p2 = 0 then
          some p1
        else
          (if p2 = y3 then
            some p1
          else
            (if p2 = 1 then
              (if y3 = 2 then
                some p1
              else
                some (-1))
            else
              some (-1))))))
set_option maxHeartbeats 4000000 in
set_option maxRecDepth 100000 in
theorem c_X12_as {l : Launch} {D : va_G} {cy : Nat → ClassId} {Ad : Nat → Nat} (hA : AdOK 37 Ad) {σ : St} {p1 : Int32} {p2 : Int32} {o : Int32} (hf : f_X12_as σ p1 p2 = some o) : CT l (wM cy Ad) D cy (AdA 37 Ad) yX12_as cX12_as 4 (some .int) 2 [.ref (Ad 0), .int p1, .int p2] σ (σ, (some (.int o))) := by
  refine CT.of mf_X12_as (wM_D hA) (Nat.le_of_ble_eq_true rfl) ?_
  intro E xl g
  have ho : ((σ, (some (.int o))) : St × Option Value) = (σ, (some (.int o))) := rfl
  unfold f_X12_as at hf
  show XJ E (wM cy Ad σ) 0 [(0, .ref (Ad 0)), (1, .int p1), (2, .int p2)] []
  refine x_aload_n g 0 dX12_as_0 rfl rfl ?_
  refine x_iload_n g 1 dX12_as_1 rfl rfl ?_
  obtain ⟨r1, hgr1, hf⟩ := obind hf
  refine x_callV (r := (RX12, TX12, 53)) g xl [.int p1] [] [.int r1] (c_X12_isCircuit hA hgr1) mf_X12_isCircuit im_X12_isCircuit se_X12_isCircuit ml_X12_291 rfl wm_0 (by decide) (by decide) rfl (Nat.le_of_ble_eq_true rfl) dX12_as_2 rfl rfl ?_
  refine x_if_ne g 11 dX12_as_5 (by decide) hf (fun c5 hf => ?_) (fun c5 hf => ?_)
  · refine x_bipush g (-101) dX12_as_8 (by decide) ?_
    cases hf
    exact x_iret g rfl ho dX12_as_10
  · refine x_iload_n g 2 dX12_as_11 rfl rfl ?_
    refine x_iconst g 0 dX12_as_12 (by decide) ?_
    refine x_iconst g 4 dX12_as_13 (by decide) ?_
    obtain ⟨r2, hgr2, hf⟩ := obind hf
    refine x_callS g xl [.int p2, .int 0, .int 4] [] [.int r2] (c_X12_within hA hgr2) mf_X12_within sm_X12_within ml_X12_130 (by decide) (by decide) rfl (Nat.le_of_ble_eq_true rfl) dX12_as_14 rfl rfl ?_
    refine x_if_ne g 23 dX12_as_17 (by decide) hf (fun c17 hf => ?_) (fun c17 hf => ?_)
    · refine x_bipush g (-102) dX12_as_20 (by decide) ?_
      cases hf
      exact x_iret g rfl ho dX12_as_22
    · refine x_aload_n g 0 dX12_as_23 rfl rfl ?_
      refine x_get g fl_X12_23 wm_0 rfl dX12_as_24 ?_
      refine x_iload_n g 1 dX12_as_27 rfl rfl ?_
      refine x_iald g wm_5 dX12_as_28 hf (fun hf => ?_)
      refine x_nami hf (fun y3 hf => ?_)
      refine x_istore_n (lv' := [(3, .int y3), (0, .ref (Ad 0)), (1, .int p1), (2, .int p2)]) g dX12_as_29 rfl (by decide) rfl ?_
      refine x_iload_n g 3 dX12_as_30 rfl rfl ?_
      refine x_if_eq g 49 dX12_as_31 (by decide) hf (fun c31 hf => ?_) (fun c31 hf => ?_)
      · refine x_iload_n g 2 dX12_as_49 rfl rfl ?_
        refine x_goto g 54 dX12_as_50 (by decide) ?_
        cases hf
        exact x_iret g rfl ho dX12_as_54
      · refine x_iload_n g 3 dX12_as_34 rfl rfl ?_
        refine x_iload_n g 0 dX12_as_35 rfl rfl ?_
        refine x_icmp_eq g 49 dX12_as_36 (by decide) hf (fun c36 hf => ?_) (fun c36 hf => ?_)
        · refine x_iload_n g 2 dX12_as_49 rfl rfl ?_
          refine x_goto g 54 dX12_as_50 (by decide) ?_
          cases hf
          exact x_iret g rfl ho dX12_as_54
        · refine x_iload_n g 3 dX12_as_39 rfl rfl ?_
          refine x_iconst g 1 dX12_as_40 (by decide) ?_
          refine x_icmp_ne g 53 dX12_as_41 (by decide) hf (fun c41 hf => ?_) (fun c41 hf => ?_)
          · refine x_iload_n g 0 dX12_as_44 rfl rfl ?_
            refine x_iconst g 2 dX12_as_45 (by decide) ?_
            refine x_icmp_ne g 53 dX12_as_46 (by decide) hf (fun c46 hf => ?_) (fun c46 hf => ?_)
            · refine x_iload_n g 2 dX12_as_49 rfl rfl ?_
              refine x_goto g 54 dX12_as_50 (by decide) ?_
              cases hf
              exact x_iret g rfl ho dX12_as_54
            · refine x_iconst g (-1) dX12_as_53 (by decide) ?_
              cases hf
              exact x_iret g rfl ho dX12_as_54
          · refine x_iconst g (-1) dX12_as_53 (by decide) ?_
            cases hf
            exact x_iret g rfl ho dX12_as_54
/-! SlotChipModel.underWay(I)I -/
def f_X12_underWay_L4b (σ : St) (v1 : Int32) (K4 : Int32 → Int32 → Option Int32) (v2 : Int32) (v3 : Int32) : Option Int32 :=
  if v3 < (σ.1 0 0 25) then
    (chk (inb v3 96) (
      if (σ.1 26 0 (Int32.toNatClampNeg v3)) = v1 then
        K4 (v2 + 1) (v3 + 1)
      else
        K4 (v2 + 0) (v3 + 1)))
  else
    some v2
def f_X12_underWay_L4 (σ : St) (v1 : Int32) : Nat → Int32 → Int32 → Option Int32
  | 0 => fun _ _ => none
  | n + 1 => f_X12_underWay_L4b σ v1 (f_X12_underWay_L4 σ v1 n)
def f_X12_underWay (σ : St) (p1 : Int32) : Option Int32 :=
  f_X12_underWay_L4 σ p1 FU 0 0
set_option maxHeartbeats 4000000 in
set_option maxRecDepth 100000 in
theorem l_X12_underWay_L4 {E : EV} {l : Launch} {D : va_G} {cy : Nat → ClassId} {Ad : Nat → Nat} {out : St × Option Value} {o : Int32} (hA : AdOK 37 Ad) (xl : XL E l D (AdA 37 Ad)) (g : XG E (wM cy Ad) cy cX12_underWay RX12 4 0 (some .int) out) (σ : St) (v1 : Int32) (ho : out = (σ, (some (.int o)))) : ∀ (n : Nat) (v2 : Int32) (v3 : Int32), f_X12_underWay_L4 σ v1 n v2 v3 = some o → XJ E (wM cy Ad σ) 4 [(0, .ref (Ad 0)), (1, .int v1), (2, .int v2), (3, .int v3)] [] := by
  intro n
  induction n with
  | zero => intro _ _ hf; cases hf
  | succ n ih4 =>
    intro v2 v3 hf
    replace hf : f_X12_underWay_L4b σ v1 (f_X12_underWay_L4 σ v1 n) v2 v3 = some o := hf
    unfold f_X12_underWay_L4b at hf
    refine x_iload_n g 3 dX12_underWay_4 rfl rfl ?_
    refine x_aload_n g 0 dX12_underWay_5 rfl rfl ?_
    refine x_get g fl_X12_191 wm_0 rfl dX12_underWay_6 ?_
    refine x_icmp_ge g 36 dX12_underWay_9 (by decide) hf (fun c9 hf => ?_) (fun c9 hf => ?_)
    · refine x_iload_n g 2 dX12_underWay_12 rfl rfl ?_
      refine x_aload_n g 0 dX12_underWay_13 rfl rfl ?_
      refine x_get g fl_X12_68 wm_0 rfl dX12_underWay_14 ?_
      refine x_iload_n g 3 dX12_underWay_17 rfl rfl ?_
      refine x_iald g wm_20 dX12_underWay_18 hf (fun hf => ?_)
      refine x_iload_n g 1 dX12_underWay_19 rfl rfl ?_
      refine x_icmp_ne g 27 dX12_underWay_20 (by decide) hf (fun c20 hf => ?_) (fun c20 hf => ?_)
      · refine x_iconst g 1 dX12_underWay_23 (by decide) ?_
        refine x_goto g 28 dX12_underWay_24 (by decide) ?_
        refine x_iadd g dX12_underWay_28 ?_
        refine x_istore_n (lv' := [(2, .int (v2 + 1)), (0, .ref (Ad 0)), (1, .int v1), (3, .int v3)]) g dX12_underWay_29 rfl (by decide) rfl ?_
        refine x_iinc g 3 (v3 + 1) (lv' := [(3, .int (v3 + 1)), (2, .int (v2 + 1)), (0, .ref (Ad 0)), (1, .int v1)]) dX12_underWay_30 rfl (by rfl) (by decide) rfl ?_
        refine x_goto g 4 dX12_underWay_33 (by decide) ?_
        exact x_sub [2, 3, 1, 0] rfl (ih4 _ _ hf)
      · refine x_iconst g 0 dX12_underWay_27 (by decide) ?_
        refine x_iadd g dX12_underWay_28 ?_
        refine x_istore_n (lv' := [(2, .int (v2 + 0)), (0, .ref (Ad 0)), (1, .int v1), (3, .int v3)]) g dX12_underWay_29 rfl (by decide) rfl ?_
        refine x_iinc g 3 (v3 + 1) (lv' := [(3, .int (v3 + 1)), (2, .int (v2 + 0)), (0, .ref (Ad 0)), (1, .int v1)]) dX12_underWay_30 rfl (by rfl) (by decide) rfl ?_
        refine x_goto g 4 dX12_underWay_33 (by decide) ?_
        exact x_sub [2, 3, 1, 0] rfl (ih4 _ _ hf)
    · refine x_iload_n g 2 dX12_underWay_36 rfl rfl ?_
      cases hf
      exact x_iret g rfl ho dX12_underWay_37
set_option maxHeartbeats 4000000 in
set_option maxRecDepth 100000 in
theorem c_X12_underWay {l : Launch} {D : va_G} {cy : Nat → ClassId} {Ad : Nat → Nat} (hA : AdOK 37 Ad) {σ : St} {p1 : Int32} {o : Int32} (hf : f_X12_underWay σ p1 = some o) : CT l (wM cy Ad) D cy (AdA 37 Ad) yX12_underWay cX12_underWay 4 (some .int) 0 [.ref (Ad 0), .int p1] σ (σ, (some (.int o))) := by
  refine CT.of mf_X12_underWay (wM_D hA) (Nat.le_of_ble_eq_true rfl) ?_
  intro E xl g
  have ho : ((σ, (some (.int o))) : St × Option Value) = (σ, (some (.int o))) := rfl
  unfold f_X12_underWay at hf
  show XJ E (wM cy Ad σ) 0 [(0, .ref (Ad 0)), (1, .int p1)] []
  refine x_iconst g 0 dX12_underWay_0 (by decide) ?_
  refine x_istore_n (lv' := [(2, .int 0), (0, .ref (Ad 0)), (1, .int p1)]) g dX12_underWay_1 rfl (by decide) rfl ?_
  refine x_iconst g 0 dX12_underWay_2 (by decide) ?_
  refine x_istore_n (lv' := [(3, .int 0), (2, .int 0), (0, .ref (Ad 0)), (1, .int p1)]) g dX12_underWay_3 rfl (by decide) rfl ?_
  exact x_sub [2, 3, 1, 0] rfl (l_X12_underWay_L4 hA xl g _ _ ho FU _ _ hf)
/-! SlotChipModel.circuitMore(II)I -/
def f_X12_circuitMore (σ : St) (p1 : Int32) (p2 : Int32) : Option Int32 :=
  if p2 = 7 then
    (chk (inb p1 8) (
      some (σ.1 23 0 (Int32.toNatClampNeg p1))))
  else
    (if p2 = 8 then
      (chk (inb p1 8) (
        some (σ.1 18 0 (Int32.toNatClampNeg p1))))
    else
      (if p2 = 9 then
        (chk (inb p1 8) (
          some (σ.1 19 0 (Int32.toNatClampNeg p1))))
      else
        (if p2 = 10 then
          (chk (inb p1 8) (
            some (σ.1 20 0 (Int32.toNatClampNeg p1))))
        else
          (if p2 = 11 then
            (chk (inb p1 8) (
              some (σ.1 21 0 (Int32.toNatClampNeg p1))))
          else
            (if p2 = 12 then
              (chk (inb p1 8) (
                some (σ.1 22 0 (Int32.toNatClampNeg p1))))
            else
              (if p2 = 13 then
                ((f_X12_underWay σ p1).bind fun r1 =>
                some r1)
              else
                (chk (inb p1 8) (
                  some (σ.1 24 0 (Int32.toNatClampNeg p1))))))))))
set_option maxHeartbeats 4000000 in
set_option maxRecDepth 100000 in
theorem c_X12_circuitMore {l : Launch} {D : va_G} {cy : Nat → ClassId} {Ad : Nat → Nat} (hA : AdOK 37 Ad) {σ : St} {p1 : Int32} {p2 : Int32} {o : Int32} (hf : f_X12_circuitMore σ p1 p2 = some o) : CT l (wM cy Ad) D cy (AdA 37 Ad) yX12_circuitMore cX12_circuitMore 3 (some .int) 1 [.ref (Ad 0), .int p1, .int p2] σ (σ, (some (.int o))) := by
  refine CT.of mf_X12_circuitMore (wM_D hA) (Nat.le_of_ble_eq_true rfl) ?_
  intro E xl g
  have ho : ((σ, (some (.int o))) : St × Option Value) = (σ, (some (.int o))) := rfl
  unfold f_X12_circuitMore at hf
  show XJ E (wM cy Ad σ) 0 [(0, .ref (Ad 0)), (1, .int p1), (2, .int p2)] []
  refine x_iload_n g 2 dX12_circuitMore_0 rfl rfl ?_
  refine sp hf (fun n_1_7 hf => ?_) (fun n_1_7 hf => ?_)
  · refine x_tin g 7 43 44 dX12_circuitMore_1 n_1_7 (by decide) ?_
    refine x_aload_n g 0 dX12_circuitMore_44 rfl rfl ?_
    refine x_get g fl_X12_62 wm_0 rfl dX12_circuitMore_45 ?_
    refine x_iload_n g 1 dX12_circuitMore_48 rfl rfl ?_
    refine x_iald g wm_18 dX12_circuitMore_49 hf (fun hf => ?_)
    cases hf
    exact x_iret g rfl ho dX12_circuitMore_50
  · refine sp hf (fun n_1_8 hf => ?_) (fun n_1_8 hf => ?_)
    · refine x_tin g 8 50 51 dX12_circuitMore_1 n_1_8 (by decide) ?_
      refine x_aload_n g 0 dX12_circuitMore_51 rfl rfl ?_
      refine x_get g fl_X12_47 wm_0 rfl dX12_circuitMore_52 ?_
      refine x_iload_n g 1 dX12_circuitMore_55 rfl rfl ?_
      refine x_iald g wm_13 dX12_circuitMore_56 hf (fun hf => ?_)
      cases hf
      exact x_iret g rfl ho dX12_circuitMore_57
    · refine sp hf (fun n_1_9 hf => ?_) (fun n_1_9 hf => ?_)
      · refine x_tin g 9 57 58 dX12_circuitMore_1 n_1_9 (by decide) ?_
        refine x_aload_n g 0 dX12_circuitMore_58 rfl rfl ?_
        refine x_get g fl_X12_50 wm_0 rfl dX12_circuitMore_59 ?_
        refine x_iload_n g 1 dX12_circuitMore_62 rfl rfl ?_
        refine x_iald g wm_14 dX12_circuitMore_63 hf (fun hf => ?_)
        cases hf
        exact x_iret g rfl ho dX12_circuitMore_64
      · refine sp hf (fun n_1_10 hf => ?_) (fun n_1_10 hf => ?_)
        · refine x_tin g 10 64 65 dX12_circuitMore_1 n_1_10 (by decide) ?_
          refine x_aload_n g 0 dX12_circuitMore_65 rfl rfl ?_
          refine x_get g fl_X12_53 wm_0 rfl dX12_circuitMore_66 ?_
          refine x_iload_n g 1 dX12_circuitMore_69 rfl rfl ?_
          refine x_iald g wm_15 dX12_circuitMore_70 hf (fun hf => ?_)
          cases hf
          exact x_iret g rfl ho dX12_circuitMore_71
        · refine sp hf (fun n_1_11 hf => ?_) (fun n_1_11 hf => ?_)
          · refine x_tin g 11 71 72 dX12_circuitMore_1 n_1_11 (by decide) ?_
            refine x_aload_n g 0 dX12_circuitMore_72 rfl rfl ?_
            refine x_get g fl_X12_56 wm_0 rfl dX12_circuitMore_73 ?_
            refine x_iload_n g 1 dX12_circuitMore_76 rfl rfl ?_
            refine x_iald g wm_16 dX12_circuitMore_77 hf (fun hf => ?_)
            cases hf
            exact x_iret g rfl ho dX12_circuitMore_78
          · refine sp hf (fun n_1_12 hf => ?_) (fun n_1_12 hf => ?_)
            · refine x_tin g 12 78 79 dX12_circuitMore_1 n_1_12 (by decide) ?_
              refine x_aload_n g 0 dX12_circuitMore_79 rfl rfl ?_
              refine x_get g fl_X12_59 wm_0 rfl dX12_circuitMore_80 ?_
              refine x_iload_n g 1 dX12_circuitMore_83 rfl rfl ?_
              refine x_iald g wm_17 dX12_circuitMore_84 hf (fun hf => ?_)
              cases hf
              exact x_iret g rfl ho dX12_circuitMore_85
            · refine sp hf (fun n_1_13 hf => ?_) (fun n_1_13 hf => ?_)
              · refine x_tin g 13 85 86 dX12_circuitMore_1 n_1_13 (by decide) ?_
                refine x_aload_n g 0 dX12_circuitMore_86 rfl rfl ?_
                refine x_iload_n g 1 dX12_circuitMore_87 rfl rfl ?_
                obtain ⟨r1, hgr1, hf⟩ := obind hf
                refine x_callV (r := (RX12, TX12, 53)) g xl [.int p1] [] [.int r1] (c_X12_underWay hA hgr1) mf_X12_underWay im_X12_underWay se_X12_underWay ml_X12_297 rfl wm_0 (by decide) (by decide) rfl (Nat.le_of_ble_eq_true rfl) dX12_circuitMore_88 rfl rfl ?_
                cases hf
                exact x_iret g rfl ho dX12_circuitMore_91
              · refine x_tout g 92 dX12_circuitMore_1 (by have e7 := tI n_1_7 (by decide : (7 : Int32).toInt = 7); have e8 := tI n_1_8 (by decide : (8 : Int32).toInt = 8); have e9 := tI n_1_9 (by decide : (9 : Int32).toInt = 9); have e10 := tI n_1_10 (by decide : (10 : Int32).toInt = 10); have e11 := tI n_1_11 (by decide : (11 : Int32).toInt = 11); have e12 := tI n_1_12 (by decide : (12 : Int32).toInt = 12); have e13 := tI n_1_13 (by decide : (13 : Int32).toInt = 13); omega) (by decide) ?_
                refine x_aload_n g 0 dX12_circuitMore_92 rfl rfl ?_
                refine x_get g fl_X12_65 wm_0 rfl dX12_circuitMore_93 ?_
                refine x_iload_n g 1 dX12_circuitMore_96 rfl rfl ?_
                refine x_iald g wm_19 dX12_circuitMore_97 hf (fun hf => ?_)
                cases hf
                exact x_iret g rfl ho dX12_circuitMore_98
/-! SlotChipModel.circuitNow(II)I -/
def f_X12_circuitNow (σ : St) (p1 : Int32) (p2 : Int32) : Option Int32 :=
  if p2 = 0 then
    (chk (inb p1 8) (
      some (σ.1 10 0 (Int32.toNatClampNeg p1))))
  else
    (if p2 = 1 then
      (chk (inb p1 8) (
        some (σ.1 11 0 (Int32.toNatClampNeg p1))))
    else
      (if p2 = 2 then
        (chk (inb p1 8) (
          some (σ.1 12 0 (Int32.toNatClampNeg p1))))
      else
        (if p2 = 3 then
          (chk (inb p1 8) (
            some (σ.1 13 0 (Int32.toNatClampNeg p1))))
        else
          (if p2 = 4 then
            (chk (inb p1 8) (
              some (σ.1 14 0 (Int32.toNatClampNeg p1))))
          else
            (if p2 = 5 then
              (chk (inb p1 8) (
                some (σ.1 15 0 (Int32.toNatClampNeg p1))))
            else
              (if p2 = 6 then
                (chk (inb p1 8) (
                  (f_X12_gapOf σ (σ.1 17 0 (Int32.toNatClampNeg p1))).bind fun r1 =>
                  some r1))
              else
                ((f_X12_circuitMore σ p1 p2).bind fun r2 =>
                some r2)))))))
set_option maxHeartbeats 4000000 in
set_option maxRecDepth 100000 in
theorem c_X12_circuitNow {l : Launch} {D : va_G} {cy : Nat → ClassId} {Ad : Nat → Nat} (hA : AdOK 37 Ad) {σ : St} {p1 : Int32} {p2 : Int32} {o : Int32} (hf : f_X12_circuitNow σ p1 p2 = some o) : CT l (wM cy Ad) D cy (AdA 37 Ad) yX12_circuitNow cX12_circuitNow 3 (some .int) 2 [.ref (Ad 0), .int p1, .int p2] σ (σ, (some (.int o))) := by
  refine CT.of mf_X12_circuitNow (wM_D hA) (Nat.le_of_ble_eq_true rfl) ?_
  intro E xl g
  have ho : ((σ, (some (.int o))) : St × Option Value) = (σ, (some (.int o))) := rfl
  unfold f_X12_circuitNow at hf
  show XJ E (wM cy Ad σ) 0 [(0, .ref (Ad 0)), (1, .int p1), (2, .int p2)] []
  refine x_iload_n g 2 dX12_circuitNow_0 rfl rfl ?_
  refine sp hf (fun n_1_0 hf => ?_) (fun n_1_0 hf => ?_)
  · refine x_tin g 0 43 44 dX12_circuitNow_1 n_1_0 (by decide) ?_
    refine x_aload_n g 0 dX12_circuitNow_44 rfl rfl ?_
    refine x_get g fl_X12_23 wm_0 rfl dX12_circuitNow_45 ?_
    refine x_iload_n g 1 dX12_circuitNow_48 rfl rfl ?_
    refine x_iald g wm_5 dX12_circuitNow_49 hf (fun hf => ?_)
    cases hf
    exact x_iret g rfl ho dX12_circuitNow_50
  · refine sp hf (fun n_1_1 hf => ?_) (fun n_1_1 hf => ?_)
    · refine x_tin g 1 50 51 dX12_circuitNow_1 n_1_1 (by decide) ?_
      refine x_aload_n g 0 dX12_circuitNow_51 rfl rfl ?_
      refine x_get g fl_X12_26 wm_0 rfl dX12_circuitNow_52 ?_
      refine x_iload_n g 1 dX12_circuitNow_55 rfl rfl ?_
      refine x_iald g wm_6 dX12_circuitNow_56 hf (fun hf => ?_)
      cases hf
      exact x_iret g rfl ho dX12_circuitNow_57
    · refine sp hf (fun n_1_2 hf => ?_) (fun n_1_2 hf => ?_)
      · refine x_tin g 2 57 58 dX12_circuitNow_1 n_1_2 (by decide) ?_
        refine x_aload_n g 0 dX12_circuitNow_58 rfl rfl ?_
        refine x_get g fl_X12_29 wm_0 rfl dX12_circuitNow_59 ?_
        refine x_iload_n g 1 dX12_circuitNow_62 rfl rfl ?_
        refine x_iald g wm_7 dX12_circuitNow_63 hf (fun hf => ?_)
        cases hf
        exact x_iret g rfl ho dX12_circuitNow_64
      · refine sp hf (fun n_1_3 hf => ?_) (fun n_1_3 hf => ?_)
        · refine x_tin g 3 64 65 dX12_circuitNow_1 n_1_3 (by decide) ?_
          refine x_aload_n g 0 dX12_circuitNow_65 rfl rfl ?_
          refine x_get g fl_X12_32 wm_0 rfl dX12_circuitNow_66 ?_
          refine x_iload_n g 1 dX12_circuitNow_69 rfl rfl ?_
          refine x_iald g wm_8 dX12_circuitNow_70 hf (fun hf => ?_)
          cases hf
          exact x_iret g rfl ho dX12_circuitNow_71
        · refine sp hf (fun n_1_4 hf => ?_) (fun n_1_4 hf => ?_)
          · refine x_tin g 4 71 72 dX12_circuitNow_1 n_1_4 (by decide) ?_
            refine x_aload_n g 0 dX12_circuitNow_72 rfl rfl ?_
            refine x_get g fl_X12_35 wm_0 rfl dX12_circuitNow_73 ?_
            refine x_iload_n g 1 dX12_circuitNow_76 rfl rfl ?_
            refine x_iald g wm_9 dX12_circuitNow_77 hf (fun hf => ?_)
            cases hf
            exact x_iret g rfl ho dX12_circuitNow_78
          · refine sp hf (fun n_1_5 hf => ?_) (fun n_1_5 hf => ?_)
            · refine x_tin g 5 78 79 dX12_circuitNow_1 n_1_5 (by decide) ?_
              refine x_aload_n g 0 dX12_circuitNow_79 rfl rfl ?_
              refine x_get g fl_X12_38 wm_0 rfl dX12_circuitNow_80 ?_
              refine x_iload_n g 1 dX12_circuitNow_83 rfl rfl ?_
              refine x_iald g wm_10 dX12_circuitNow_84 hf (fun hf => ?_)
              cases hf
              exact x_iret g rfl ho dX12_circuitNow_85
            · refine sp hf (fun n_1_6 hf => ?_) (fun n_1_6 hf => ?_)
              · refine x_tin g 6 85 86 dX12_circuitNow_1 n_1_6 (by decide) ?_
                refine x_aload_n g 0 dX12_circuitNow_86 rfl rfl ?_
                refine x_aload_n g 0 dX12_circuitNow_87 rfl rfl ?_
                refine x_get g fl_X12_44 wm_0 rfl dX12_circuitNow_88 ?_
                refine x_iload_n g 1 dX12_circuitNow_91 rfl rfl ?_
                refine x_iald g wm_12 dX12_circuitNow_92 hf (fun hf => ?_)
                obtain ⟨r1, hgr1, hf⟩ := obind hf
                refine x_callV (r := (RX12, TX12, 53)) g xl [.int (σ.1 17 0 (Int32.toNatClampNeg p1))] [] [.int r1] (c_X12_gapOf hA hgr1) mf_X12_gapOf im_X12_gapOf se_X12_gapOf ml_X12_220 rfl wm_0 (by decide) (by decide) rfl (Nat.le_of_ble_eq_true rfl) dX12_circuitNow_93 rfl rfl ?_
                cases hf
                exact x_iret g rfl ho dX12_circuitNow_96
              · refine x_tout g 97 dX12_circuitNow_1 (by have e0 := tI n_1_0 (by decide : (0 : Int32).toInt = 0); have e1 := tI n_1_1 (by decide : (1 : Int32).toInt = 1); have e2 := tI n_1_2 (by decide : (2 : Int32).toInt = 2); have e3 := tI n_1_3 (by decide : (3 : Int32).toInt = 3); have e4 := tI n_1_4 (by decide : (4 : Int32).toInt = 4); have e5 := tI n_1_5 (by decide : (5 : Int32).toInt = 5); have e6 := tI n_1_6 (by decide : (6 : Int32).toInt = 6); omega) (by decide) ?_
                refine x_aload_n g 0 dX12_circuitNow_97 rfl rfl ?_
                refine x_iload_n g 1 dX12_circuitNow_98 rfl rfl ?_
                refine x_iload_n g 2 dX12_circuitNow_99 rfl rfl ?_
                obtain ⟨r2, hgr2, hf⟩ := obind hf
                refine x_callV (r := (RX12, TX12, 53)) g xl [.int p1, .int p2] [] [.int r2] (c_X12_circuitMore hA hgr2) mf_X12_circuitMore im_X12_circuitMore se_X12_circuitMore ml_X12_294 rfl wm_0 (by decide) (by decide) rfl (Nat.le_of_ble_eq_true rfl) dX12_circuitNow_100 rfl rfl ?_
                cases hf
                exact x_iret g rfl ho dX12_circuitNow_103
/-! SlotChipModel.circuit(II)I -/
def f_X12_circuit (σ : St) (p1 : Int32) (p2 : Int32) : Option Int32 :=
  (f_X12_isCircuit σ p1).bind fun r1 =>
  if r1 = 0 then
    some (-101)
  else
    ((f_X12_within p2 0 14).bind fun r2 =>
    if r2 = 0 then
      some (-102)
    else
      ((f_X12_circuitNow σ p1 p2).bind fun r3 =>
      some r3))
set_option maxHeartbeats 4000000 in
set_option maxRecDepth 100000 in
theorem c_X12_circuit {l : Launch} {D : va_G} {cy : Nat → ClassId} {Ad : Nat → Nat} (hA : AdOK 37 Ad) {σ : St} {p1 : Int32} {p2 : Int32} {o : Int32} (hf : f_X12_circuit σ p1 p2 = some o) : CT l (wM cy Ad) D cy (AdA 37 Ad) yX12_circuit cX12_circuit 3 (some .int) 3 [.ref (Ad 0), .int p1, .int p2] σ (σ, (some (.int o))) := by
  refine CT.of mf_X12_circuit (wM_D hA) (Nat.le_of_ble_eq_true rfl) ?_
  intro E xl g
  have ho : ((σ, (some (.int o))) : St × Option Value) = (σ, (some (.int o))) := rfl
  unfold f_X12_circuit at hf
  show XJ E (wM cy Ad σ) 0 [(0, .ref (Ad 0)), (1, .int p1), (2, .int p2)] []
  refine x_aload_n g 0 dX12_circuit_0 rfl rfl ?_
  refine x_iload_n g 1 dX12_circuit_1 rfl rfl ?_
  obtain ⟨r1, hgr1, hf⟩ := obind hf
  refine x_callV (r := (RX12, TX12, 53)) g xl [.int p1] [] [.int r1] (c_X12_isCircuit hA hgr1) mf_X12_isCircuit im_X12_isCircuit se_X12_isCircuit ml_X12_291 rfl wm_0 (by decide) (by decide) rfl (Nat.le_of_ble_eq_true rfl) dX12_circuit_2 rfl rfl ?_
  refine x_if_ne g 13 dX12_circuit_5 (by decide) hf (fun c5 hf => ?_) (fun c5 hf => ?_)
  · refine x_bipush g (-101) dX12_circuit_8 (by decide) ?_
    refine x_goto g 34 dX12_circuit_10 (by decide) ?_
    cases hf
    exact x_iret g rfl ho dX12_circuit_34
  · refine x_iload_n g 2 dX12_circuit_13 rfl rfl ?_
    refine x_iconst g 0 dX12_circuit_14 (by decide) ?_
    refine x_bipush g 14 dX12_circuit_15 (by decide) ?_
    obtain ⟨r2, hgr2, hf⟩ := obind hf
    refine x_callS g xl [.int p2, .int 0, .int 14] [] [.int r2] (c_X12_within hA hgr2) mf_X12_within sm_X12_within ml_X12_130 (by decide) (by decide) rfl (Nat.le_of_ble_eq_true rfl) dX12_circuit_17 rfl rfl ?_
    refine x_if_eq g 32 dX12_circuit_20 (by decide) hf (fun c20 hf => ?_) (fun c20 hf => ?_)
    · refine x_bipush g (-102) dX12_circuit_32 (by decide) ?_
      cases hf
      exact x_iret g rfl ho dX12_circuit_34
    · refine x_aload_n g 0 dX12_circuit_23 rfl rfl ?_
      refine x_iload_n g 1 dX12_circuit_24 rfl rfl ?_
      refine x_iload_n g 2 dX12_circuit_25 rfl rfl ?_
      obtain ⟨r3, hgr3, hf⟩ := obind hf
      refine x_callV (r := (RX12, TX12, 53)) g xl [.int p1, .int p2] [] [.int r3] (c_X12_circuitNow hA hgr3) mf_X12_circuitNow im_X12_circuitNow se_X12_circuitNow ml_X12_300 rfl wm_0 (by decide) (by decide) rfl (Nat.le_of_ble_eq_true rfl) dX12_circuit_26 rfl rfl ?_
      refine x_goto g 34 dX12_circuit_29 (by decide) ?_
      cases hf
      exact x_iret g rfl ho dX12_circuit_34
/-! SlotChipModel.route(II)I -/
def f_X12_route (σ : St) (p1 : Int32) (p2 : Int32) : Option Int32 :=
  (f_X12_isCircuit σ p1).bind fun r1 =>
  if r1 = 0 then
    some (-101)
  else
    (chk (inb p1 8) (
      (f_X12_within p2 0 ((σ.1 15 0 (Int32.toNatClampNeg p1)) + 1)).bind fun r2 =>
      if r2 = 0 then
        some (-101)
      else
        (chk (inb ((8 * p1) + p2) 64) (
          some (σ.1 16 0 (Int32.toNatClampNeg ((8 * p1) + p2)))))))
set_option maxHeartbeats 4000000 in
set_option maxRecDepth 100000 in
theorem c_X12_route {l : Launch} {D : va_G} {cy : Nat → ClassId} {Ad : Nat → Nat} (hA : AdOK 37 Ad) {σ : St} {p1 : Int32} {p2 : Int32} {o : Int32} (hf : f_X12_route σ p1 p2 = some o) : CT l (wM cy Ad) D cy (AdA 37 Ad) yX12_route cX12_route 3 (some .int) 2 [.ref (Ad 0), .int p1, .int p2] σ (σ, (some (.int o))) := by
  refine CT.of mf_X12_route (wM_D hA) (Nat.le_of_ble_eq_true rfl) ?_
  intro E xl g
  have ho : ((σ, (some (.int o))) : St × Option Value) = (σ, (some (.int o))) := rfl
  unfold f_X12_route at hf
  show XJ E (wM cy Ad σ) 0 [(0, .ref (Ad 0)), (1, .int p1), (2, .int p2)] []
  refine x_aload_n g 0 dX12_route_0 rfl rfl ?_
  refine x_iload_n g 1 dX12_route_1 rfl rfl ?_
  obtain ⟨r1, hgr1, hf⟩ := obind hf
  refine x_callV (r := (RX12, TX12, 53)) g xl [.int p1] [] [.int r1] (c_X12_isCircuit hA hgr1) mf_X12_isCircuit im_X12_isCircuit se_X12_isCircuit ml_X12_291 rfl wm_0 (by decide) (by decide) rfl (Nat.le_of_ble_eq_true rfl) dX12_route_2 rfl rfl ?_
  refine x_if_eq g 38 dX12_route_5 (by decide) hf (fun c5 hf => ?_) (fun c5 hf => ?_)
  · refine x_bipush g (-101) dX12_route_38 (by decide) ?_
    cases hf
    exact x_iret g rfl ho dX12_route_40
  · refine x_iload_n g 2 dX12_route_8 rfl rfl ?_
    refine x_iconst g 0 dX12_route_9 (by decide) ?_
    refine x_aload_n g 0 dX12_route_10 rfl rfl ?_
    refine x_get g fl_X12_38 wm_0 rfl dX12_route_11 ?_
    refine x_iload_n g 1 dX12_route_14 rfl rfl ?_
    refine x_iald g wm_10 dX12_route_15 hf (fun hf => ?_)
    refine x_iconst g 1 dX12_route_16 (by decide) ?_
    refine x_iadd g dX12_route_17 ?_
    obtain ⟨r2, hgr2, hf⟩ := obind hf
    refine x_callS g xl [.int p2, .int 0, .int ((σ.1 15 0 (Int32.toNatClampNeg p1)) + 1)] [] [.int r2] (c_X12_within hA hgr2) mf_X12_within sm_X12_within ml_X12_130 (by decide) (by decide) rfl (Nat.le_of_ble_eq_true rfl) dX12_route_18 rfl rfl ?_
    refine x_if_eq g 38 dX12_route_21 (by decide) hf (fun c21 hf => ?_) (fun c21 hf => ?_)
    · refine x_bipush g (-101) dX12_route_38 (by decide) ?_
      cases hf
      exact x_iret g rfl ho dX12_route_40
    · refine x_aload_n g 0 dX12_route_24 rfl rfl ?_
      refine x_get g fl_X12_41 wm_0 rfl dX12_route_25 ?_
      refine x_bipush g 8 dX12_route_28 (by decide) ?_
      refine x_iload_n g 1 dX12_route_30 rfl rfl ?_
      refine x_imul g dX12_route_31 ?_
      refine x_iload_n g 2 dX12_route_32 rfl rfl ?_
      refine x_iadd g dX12_route_33 ?_
      refine x_iald g wm_11 dX12_route_34 hf (fun hf => ?_)
      refine x_goto g 40 dX12_route_35 (by decide) ?_
      cases hf
      exact x_iret g rfl ho dX12_route_40
/-! SlotChipModel.startAt(II)I -/
def f_X12_startAt_L5b (σ : St) (v1 : Int32) (K5 : Int32 → Int32 → Option Int32) (v3 : Int32) (v4 : Int32) : Option Int32 :=
  if v3 ≤ 0 then
    (chk (inb v1 8) (
      (f_X12_isBit (σ.1 17 0 (Int32.toNatClampNeg v1)) v4).bind fun r1 =>
      if r1 = 0 then
        (chk (inb v1 8) (
          (f_X12_isBit (σ.1 17 0 (Int32.toNatClampNeg v1)) v4).bind fun r2 =>
          if r2 = 0 then
            K5 (v3 - 0) (v4 + 1)
          else
            K5 (v3 - 1) (v4 + 1)))
      else
        some v4))
  else
    (chk (inb v1 8) (
      (f_X12_isBit (σ.1 17 0 (Int32.toNatClampNeg v1)) v4).bind fun r3 =>
      if r3 = 0 then
        K5 (v3 - 0) (v4 + 1)
      else
        K5 (v3 - 1) (v4 + 1)))
def f_X12_startAt_L5 (σ : St) (v1 : Int32) : Nat → Int32 → Int32 → Option Int32
  | 0 => fun _ _ => none
  | n + 1 => f_X12_startAt_L5b σ v1 (f_X12_startAt_L5 σ v1 n)
def f_X12_startAt (σ : St) (p1 : Int32) (p2 : Int32) : Option Int32 :=
  f_X12_startAt_L5 σ p1 FU p2 0
set_option maxHeartbeats 4000000 in
set_option maxRecDepth 100000 in
theorem l_X12_startAt_L5 {E : EV} {l : Launch} {D : va_G} {cy : Nat → ClassId} {Ad : Nat → Nat} {out : St × Option Value} {o : Int32} (hA : AdOK 37 Ad) (xl : XL E l D (AdA 37 Ad)) (g : XG E (wM cy Ad) cy cX12_startAt RX12 5 1 (some .int) out) (σ : St) (v1 : Int32) (ho : out = (σ, (some (.int o)))) : ∀ (n : Nat) (v3 : Int32) (v4 : Int32), f_X12_startAt_L5 σ v1 n v3 v4 = some o → XJ E (wM cy Ad σ) 5 [(0, .ref (Ad 0)), (1, .int v1), (3, .int v3), (4, .int v4)] [] := by
  intro n
  induction n with
  | zero => intro _ _ hf; cases hf
  | succ n ih5 =>
    intro v3 v4 hf
    replace hf : f_X12_startAt_L5b σ v1 (f_X12_startAt_L5 σ v1 n) v3 v4 = some o := hf
    unfold f_X12_startAt_L5b at hf
    refine x_iload_n g 2 dX12_startAt_5 rfl rfl ?_
    refine x_if_gt g 23 dX12_startAt_6 (by decide) hf (fun c6 hf => ?_) (fun c6 hf => ?_)
    · refine x_aload_n g 0 dX12_startAt_9 rfl rfl ?_
      refine x_get g fl_X12_44 wm_0 rfl dX12_startAt_10 ?_
      refine x_iload_n g 1 dX12_startAt_13 rfl rfl ?_
      refine x_iald g wm_12 dX12_startAt_14 hf (fun hf => ?_)
      refine x_iload g 3 dX12_startAt_15 rfl ?_
      obtain ⟨r1, hgr1, hf⟩ := obind hf
      refine x_callS g xl [.int (σ.1 17 0 (Int32.toNatClampNeg v1)), .int v4] [] [.int r1] (c_X12_isBit hA hgr1) mf_X12_isBit sm_X12_isBit ml_X12_200 (by decide) (by decide) rfl (Nat.le_of_ble_eq_true rfl) dX12_startAt_17 rfl rfl ?_
      refine x_if_ne g 51 dX12_startAt_20 (by decide) hf (fun c20 hf => ?_) (fun c20 hf => ?_)
      · refine x_iload_n g 2 dX12_startAt_23 rfl rfl ?_
        refine x_aload_n g 0 dX12_startAt_24 rfl rfl ?_
        refine x_get g fl_X12_44 wm_0 rfl dX12_startAt_25 ?_
        refine x_iload_n g 1 dX12_startAt_28 rfl rfl ?_
        refine x_iald g wm_12 dX12_startAt_29 hf (fun hf => ?_)
        refine x_iload g 3 dX12_startAt_30 rfl ?_
        obtain ⟨r2, hgr2, hf⟩ := obind hf
        refine x_callS g xl [.int (σ.1 17 0 (Int32.toNatClampNeg v1)), .int v4] [.int v3] [.int r2, .int v3] (c_X12_isBit hA hgr2) mf_X12_isBit sm_X12_isBit ml_X12_200 (by decide) (by decide) rfl (Nat.le_of_ble_eq_true rfl) dX12_startAt_32 rfl rfl ?_
        refine x_if_eq g 42 dX12_startAt_35 (by decide) hf (fun c35 hf => ?_) (fun c35 hf => ?_)
        · refine x_iconst g 0 dX12_startAt_42 (by decide) ?_
          refine x_isub g dX12_startAt_43 ?_
          refine x_istore_n (lv' := [(3, .int (v3 - 0)), (0, .ref (Ad 0)), (1, .int v1), (4, .int v4)]) g dX12_startAt_44 rfl (by decide) rfl ?_
          refine x_iinc g 3 (v4 + 1) (lv' := [(4, .int (v4 + 1)), (3, .int (v3 - 0)), (0, .ref (Ad 0)), (1, .int v1)]) dX12_startAt_45 rfl (by rfl) (by decide) rfl ?_
          refine x_goto g 5 dX12_startAt_48 (by decide) ?_
          exact x_sub [2, 3, 1, 0] rfl (ih5 _ _ hf)
        · refine x_iconst g 1 dX12_startAt_38 (by decide) ?_
          refine x_goto g 43 dX12_startAt_39 (by decide) ?_
          refine x_isub g dX12_startAt_43 ?_
          refine x_istore_n (lv' := [(3, .int (v3 - 1)), (0, .ref (Ad 0)), (1, .int v1), (4, .int v4)]) g dX12_startAt_44 rfl (by decide) rfl ?_
          refine x_iinc g 3 (v4 + 1) (lv' := [(4, .int (v4 + 1)), (3, .int (v3 - 1)), (0, .ref (Ad 0)), (1, .int v1)]) dX12_startAt_45 rfl (by rfl) (by decide) rfl ?_
          refine x_goto g 5 dX12_startAt_48 (by decide) ?_
          exact x_sub [2, 3, 1, 0] rfl (ih5 _ _ hf)
      · refine x_iload g 3 dX12_startAt_51 rfl ?_
        cases hf
        exact x_iret g rfl ho dX12_startAt_53
    · refine x_iload_n g 2 dX12_startAt_23 rfl rfl ?_
      refine x_aload_n g 0 dX12_startAt_24 rfl rfl ?_
      refine x_get g fl_X12_44 wm_0 rfl dX12_startAt_25 ?_
      refine x_iload_n g 1 dX12_startAt_28 rfl rfl ?_
      refine x_iald g wm_12 dX12_startAt_29 hf (fun hf => ?_)
      refine x_iload g 3 dX12_startAt_30 rfl ?_
      obtain ⟨r3, hgr3, hf⟩ := obind hf
      refine x_callS g xl [.int (σ.1 17 0 (Int32.toNatClampNeg v1)), .int v4] [.int v3] [.int r3, .int v3] (c_X12_isBit hA hgr3) mf_X12_isBit sm_X12_isBit ml_X12_200 (by decide) (by decide) rfl (Nat.le_of_ble_eq_true rfl) dX12_startAt_32 rfl rfl ?_
      refine x_if_eq g 42 dX12_startAt_35 (by decide) hf (fun c35 hf => ?_) (fun c35 hf => ?_)
      · refine x_iconst g 0 dX12_startAt_42 (by decide) ?_
        refine x_isub g dX12_startAt_43 ?_
        refine x_istore_n (lv' := [(3, .int (v3 - 0)), (0, .ref (Ad 0)), (1, .int v1), (4, .int v4)]) g dX12_startAt_44 rfl (by decide) rfl ?_
        refine x_iinc g 3 (v4 + 1) (lv' := [(4, .int (v4 + 1)), (3, .int (v3 - 0)), (0, .ref (Ad 0)), (1, .int v1)]) dX12_startAt_45 rfl (by rfl) (by decide) rfl ?_
        refine x_goto g 5 dX12_startAt_48 (by decide) ?_
        exact x_sub [2, 3, 1, 0] rfl (ih5 _ _ hf)
      · refine x_iconst g 1 dX12_startAt_38 (by decide) ?_
        refine x_goto g 43 dX12_startAt_39 (by decide) ?_
        refine x_isub g dX12_startAt_43 ?_
        refine x_istore_n (lv' := [(3, .int (v3 - 1)), (0, .ref (Ad 0)), (1, .int v1), (4, .int v4)]) g dX12_startAt_44 rfl (by decide) rfl ?_
        refine x_iinc g 3 (v4 + 1) (lv' := [(4, .int (v4 + 1)), (3, .int (v3 - 1)), (0, .ref (Ad 0)), (1, .int v1)]) dX12_startAt_45 rfl (by rfl) (by decide) rfl ?_
        refine x_goto g 5 dX12_startAt_48 (by decide) ?_
        exact x_sub [2, 3, 1, 0] rfl (ih5 _ _ hf)
set_option maxHeartbeats 4000000 in
set_option maxRecDepth 100000 in
theorem c_X12_startAt {l : Launch} {D : va_G} {cy : Nat → ClassId} {Ad : Nat → Nat} (hA : AdOK 37 Ad) {σ : St} {p1 : Int32} {p2 : Int32} {o : Int32} (hf : f_X12_startAt σ p1 p2 = some o) : CT l (wM cy Ad) D cy (AdA 37 Ad) yX12_startAt cX12_startAt 5 (some .int) 1 [.ref (Ad 0), .int p1, .int p2] σ (σ, (some (.int o))) := by
  refine CT.of mf_X12_startAt (wM_D hA) (Nat.le_of_ble_eq_true rfl) ?_
  intro E xl g
  have ho : ((σ, (some (.int o))) : St × Option Value) = (σ, (some (.int o))) := rfl
  unfold f_X12_startAt at hf
  show XJ E (wM cy Ad σ) 0 [(0, .ref (Ad 0)), (1, .int p1), (2, .int p2)] []
  refine x_iload_n g 2 dX12_startAt_0 rfl rfl ?_
  refine x_istore_n (lv' := [(3, .int p2), (0, .ref (Ad 0)), (1, .int p1), (2, .int p2)]) g dX12_startAt_1 rfl (by decide) rfl ?_
  refine x_iconst g 0 dX12_startAt_2 (by decide) ?_
  refine x_istore (lv' := [(4, .int 0), (3, .int p2), (0, .ref (Ad 0)), (1, .int p1), (2, .int p2)]) g dX12_startAt_3 (by decide) rfl ?_
  exact x_sub [2, 3, 1, 0] rfl (l_X12_startAt_L5 hA xl g _ _ ho FU _ _ hf)
/-! SlotChipModel.start(II)I -/
def f_X12_start (σ : St) (p1 : Int32) (p2 : Int32) : Option Int32 :=
  (f_X12_isCircuit σ p1).bind fun r1 =>
  if r1 = 0 then
    some (-101)
  else
    (chk (inb p1 8) (
      (f_X12_within p2 0 ((σ.1 13 0 (Int32.toNatClampNeg p1)) - 1)).bind fun r2 =>
      if r2 = 0 then
        some (-101)
      else
        ((f_X12_startAt σ p1 p2).bind fun r3 =>
        some r3)))
set_option maxHeartbeats 4000000 in
set_option maxRecDepth 100000 in
theorem c_X12_start {l : Launch} {D : va_G} {cy : Nat → ClassId} {Ad : Nat → Nat} (hA : AdOK 37 Ad) {σ : St} {p1 : Int32} {p2 : Int32} {o : Int32} (hf : f_X12_start σ p1 p2 = some o) : CT l (wM cy Ad) D cy (AdA 37 Ad) yX12_start cX12_start 3 (some .int) 2 [.ref (Ad 0), .int p1, .int p2] σ (σ, (some (.int o))) := by
  refine CT.of mf_X12_start (wM_D hA) (Nat.le_of_ble_eq_true rfl) ?_
  intro E xl g
  have ho : ((σ, (some (.int o))) : St × Option Value) = (σ, (some (.int o))) := rfl
  unfold f_X12_start at hf
  show XJ E (wM cy Ad σ) 0 [(0, .ref (Ad 0)), (1, .int p1), (2, .int p2)] []
  refine x_aload_n g 0 dX12_start_0 rfl rfl ?_
  refine x_iload_n g 1 dX12_start_1 rfl rfl ?_
  obtain ⟨r1, hgr1, hf⟩ := obind hf
  refine x_callV (r := (RX12, TX12, 53)) g xl [.int p1] [] [.int r1] (c_X12_isCircuit hA hgr1) mf_X12_isCircuit im_X12_isCircuit se_X12_isCircuit ml_X12_291 rfl wm_0 (by decide) (by decide) rfl (Nat.le_of_ble_eq_true rfl) dX12_start_2 rfl rfl ?_
  refine x_if_eq g 33 dX12_start_5 (by decide) hf (fun c5 hf => ?_) (fun c5 hf => ?_)
  · refine x_bipush g (-101) dX12_start_33 (by decide) ?_
    cases hf
    exact x_iret g rfl ho dX12_start_35
  · refine x_iload_n g 2 dX12_start_8 rfl rfl ?_
    refine x_iconst g 0 dX12_start_9 (by decide) ?_
    refine x_aload_n g 0 dX12_start_10 rfl rfl ?_
    refine x_get g fl_X12_32 wm_0 rfl dX12_start_11 ?_
    refine x_iload_n g 1 dX12_start_14 rfl rfl ?_
    refine x_iald g wm_8 dX12_start_15 hf (fun hf => ?_)
    refine x_iconst g 1 dX12_start_16 (by decide) ?_
    refine x_isub g dX12_start_17 ?_
    obtain ⟨r2, hgr2, hf⟩ := obind hf
    refine x_callS g xl [.int p2, .int 0, .int ((σ.1 13 0 (Int32.toNatClampNeg p1)) - 1)] [] [.int r2] (c_X12_within hA hgr2) mf_X12_within sm_X12_within ml_X12_130 (by decide) (by decide) rfl (Nat.le_of_ble_eq_true rfl) dX12_start_18 rfl rfl ?_
    refine x_if_eq g 33 dX12_start_21 (by decide) hf (fun c21 hf => ?_) (fun c21 hf => ?_)
    · refine x_bipush g (-101) dX12_start_33 (by decide) ?_
      cases hf
      exact x_iret g rfl ho dX12_start_35
    · refine x_aload_n g 0 dX12_start_24 rfl rfl ?_
      refine x_iload_n g 1 dX12_start_25 rfl rfl ?_
      refine x_iload_n g 2 dX12_start_26 rfl rfl ?_
      obtain ⟨r3, hgr3, hf⟩ := obind hf
      refine x_callV (r := (RX12, TX12, 53)) g xl [.int p1, .int p2] [] [.int r3] (c_X12_startAt hA hgr3) mf_X12_startAt im_X12_startAt se_X12_startAt ml_X12_303 rfl wm_0 (by decide) (by decide) rfl (Nat.le_of_ble_eq_true rfl) dX12_start_27 rfl rfl ?_
      refine x_goto g 35 dX12_start_30 (by decide) ?_
      cases hf
      exact x_iret g rfl ho dX12_start_35
/-! SlotChipModel.pair(II)I -/
def f_X12_pair (σ : St) (p1 : Int32) (p2 : Int32) : Option (St × Int32) :=
  (f_X12_isCircuit σ p1).bind fun r1 =>
  if r1 = 0 then
    some (σ, (-101))
  else
    ((f_X12_isCircuit σ p2).bind fun r2 =>
    if r2 = 0 then
      some (σ, (-101))
    else
      (if p1 = p2 then
        some (σ, (-101))
      else
        (chk (inb p1 8) (
          chk (inb p2 8) (
            if (σ.1 11 0 (Int32.toNatClampNeg p1)) = (σ.1 12 0 (Int32.toNatClampNeg p2)) then
              (chk (inb p1 8) (
                chk (inb p2 8) (
                  if (σ.1 12 0 (Int32.toNatClampNeg p1)) = (σ.1 11 0 (Int32.toNatClampNeg p2)) then
                    (chk (inb p1 8) (
                      if (σ.1 23 0 (Int32.toNatClampNeg p1)) = (-1) then
                        (chk (inb p2 8) (
                          if (σ.1 23 0 (Int32.toNatClampNeg p2)) = (-1) then
                            (chk (inb p1 8) (
                              bnd (si σ 23 0 (Int32.toNatClampNeg p1) p2) fun σ3 =>
                              chk (inb p2 8) (
                                bnd (si σ3 23 0 (Int32.toNatClampNeg p2) p1) fun σ4 =>
                                chk (inb p1 8) (
                                  chk (inb p2 8) (
                                    some (σ4, ((σ4.1 15 0 (Int32.toNatClampNeg p1)) + (σ4.1 15 0 (Int32.toNatClampNeg p2)))))))))
                          else
                            some (σ, (-103))))
                      else
                        some (σ, (-103))))
                  else
                    (chk (inb p1 8) (
                      if (σ.1 23 0 (Int32.toNatClampNeg p1)) = (-1) then
                        (chk (inb p2 8) (
                          if (σ.1 23 0 (Int32.toNatClampNeg p2)) = (-1) then
                            some (σ, (-103))
                          else
                            some (σ, (-103))))
                      else
                        some (σ, (-103)))))))
            else
              (chk (inb p1 8) (
                if (σ.1 23 0 (Int32.toNatClampNeg p1)) = (-1) then
                  (chk (inb p2 8) (
                    if (σ.1 23 0 (Int32.toNatClampNeg p2)) = (-1) then
                      some (σ, (-103))
                    else
                      some (σ, (-103))))
                else
                  some (σ, (-103)))))))))
set_option maxHeartbeats 4000000 in
set_option maxRecDepth 100000 in
theorem c_X12_pair {l : Launch} {D : va_G} {cy : Nat → ClassId} {Ad : Nat → Nat} (hA : AdOK 37 Ad) {σ : St} {p1 : Int32} {p2 : Int32} {o : (St × Int32)} (hf : f_X12_pair σ p1 p2 = some o) : CT l (wM cy Ad) D cy (AdA 37 Ad) yX12_pair cX12_pair 4 (some .int) 2 [.ref (Ad 0), .int p1, .int p2] σ (o.1, (some (.int o.2))) := by
  refine CT.of mf_X12_pair (wM_D hA) (Nat.le_of_ble_eq_true rfl) ?_
  intro E xl g
  have ho : ((o.1, (some (.int o.2))) : St × Option Value) = (o.1, (some (.int o.2))) := rfl
  unfold f_X12_pair at hf
  show XJ E (wM cy Ad σ) 0 [(0, .ref (Ad 0)), (1, .int p1), (2, .int p2)] []
  refine x_aload_n g 0 dX12_pair_0 rfl rfl ?_
  refine x_iload_n g 1 dX12_pair_1 rfl rfl ?_
  obtain ⟨r1, hgr1, hf⟩ := obind hf
  refine x_callV (r := (RX12, TX12, 53)) g xl [.int p1] [] [.int r1] (c_X12_isCircuit hA hgr1) mf_X12_isCircuit im_X12_isCircuit se_X12_isCircuit ml_X12_291 rfl wm_0 (by decide) (by decide) rfl (Nat.le_of_ble_eq_true rfl) dX12_pair_2 rfl rfl ?_
  refine x_if_eq g 21 dX12_pair_5 (by decide) hf (fun c5 hf => ?_) (fun c5 hf => ?_)
  · refine x_bipush g (-101) dX12_pair_21 (by decide) ?_
    cases hf
    exact x_iret g rfl ho dX12_pair_23
  · refine x_aload_n g 0 dX12_pair_8 rfl rfl ?_
    refine x_iload_n g 2 dX12_pair_9 rfl rfl ?_
    obtain ⟨r2, hgr2, hf⟩ := obind hf
    refine x_callV (r := (RX12, TX12, 53)) g xl [.int p2] [] [.int r2] (c_X12_isCircuit hA hgr2) mf_X12_isCircuit im_X12_isCircuit se_X12_isCircuit ml_X12_291 rfl wm_0 (by decide) (by decide) rfl (Nat.le_of_ble_eq_true rfl) dX12_pair_10 rfl rfl ?_
    refine x_if_eq g 21 dX12_pair_13 (by decide) hf (fun c13 hf => ?_) (fun c13 hf => ?_)
    · refine x_bipush g (-101) dX12_pair_21 (by decide) ?_
      cases hf
      exact x_iret g rfl ho dX12_pair_23
    · refine x_iload_n g 1 dX12_pair_16 rfl rfl ?_
      refine x_iload_n g 2 dX12_pair_17 rfl rfl ?_
      refine x_icmp_ne g 24 dX12_pair_18 (by decide) hf (fun c18 hf => ?_) (fun c18 hf => ?_)
      · refine x_bipush g (-101) dX12_pair_21 (by decide) ?_
        cases hf
        exact x_iret g rfl ho dX12_pair_23
      · refine x_aload_n g 0 dX12_pair_24 rfl rfl ?_
        refine x_get g fl_X12_26 wm_0 rfl dX12_pair_25 ?_
        refine x_iload_n g 1 dX12_pair_28 rfl rfl ?_
        refine x_iald g wm_6 dX12_pair_29 hf (fun hf => ?_)
        refine x_aload_n g 0 dX12_pair_30 rfl rfl ?_
        refine x_get g fl_X12_29 wm_0 rfl dX12_pair_31 ?_
        refine x_iload_n g 2 dX12_pair_34 rfl rfl ?_
        refine x_iald g wm_7 dX12_pair_35 hf (fun hf => ?_)
        refine x_icmp_ne g 58 dX12_pair_36 (by decide) hf (fun c36 hf => ?_) (fun c36 hf => ?_)
        · refine x_aload_n g 0 dX12_pair_39 rfl rfl ?_
          refine x_get g fl_X12_29 wm_0 rfl dX12_pair_40 ?_
          refine x_iload_n g 1 dX12_pair_43 rfl rfl ?_
          refine x_iald g wm_7 dX12_pair_44 hf (fun hf => ?_)
          refine x_aload_n g 0 dX12_pair_45 rfl rfl ?_
          refine x_get g fl_X12_26 wm_0 rfl dX12_pair_46 ?_
          refine x_iload_n g 2 dX12_pair_49 rfl rfl ?_
          refine x_iald g wm_6 dX12_pair_50 hf (fun hf => ?_)
          refine x_icmp_ne g 58 dX12_pair_51 (by decide) hf (fun c51 hf => ?_) (fun c51 hf => ?_)
          · refine x_iconst g 1 dX12_pair_54 (by decide) ?_
            refine x_goto g 59 dX12_pair_55 (by decide) ?_
            refine x_istore_n (lv' := [(3, .int 1), (0, .ref (Ad 0)), (1, .int p1), (2, .int p2)]) g dX12_pair_59 rfl (by decide) rfl ?_
            refine x_aload_n g 1 dX12_pair_60 rfl rfl ?_
            refine x_get g fl_X12_62 wm_0 rfl dX12_pair_61 ?_
            refine x_iload_n g 2 dX12_pair_64 rfl rfl ?_
            refine x_iald g wm_18 dX12_pair_65 hf (fun hf => ?_)
            refine x_iconst g (-1) dX12_pair_66 (by decide) ?_
            refine x_icmp_ne g 84 dX12_pair_67 (by decide) hf (fun c67 hf => ?_) (fun c67 hf => ?_)
            · refine x_aload_n g 1 dX12_pair_70 rfl rfl ?_
              refine x_get g fl_X12_62 wm_0 rfl dX12_pair_71 ?_
              refine x_iload_n g 3 dX12_pair_74 rfl rfl ?_
              refine x_iald g wm_18 dX12_pair_75 hf (fun hf => ?_)
              refine x_iconst g (-1) dX12_pair_76 (by decide) ?_
              refine x_icmp_ne g 84 dX12_pair_77 (by decide) hf (fun c77 hf => ?_) (fun c77 hf => ?_)
              · refine x_iload_n g 0 dX12_pair_80 rfl rfl ?_
                refine x_if_ne_t g 87 dX12_pair_81 (by decide) (by decide) ?_
                refine x_aload_n g 1 dX12_pair_87 rfl rfl ?_
                refine x_get g fl_X12_62 wm_0 rfl dX12_pair_88 ?_
                refine x_iload_n g 2 dX12_pair_91 rfl rfl ?_
                refine x_iload_n g 3 dX12_pair_92 rfl rfl ?_
                refine x_iastB g wm_18 (sm_18 _ _) dX12_pair_93 hf (fun σ3 hf => ?_)
                refine x_aload_n g 1 dX12_pair_94 rfl rfl ?_
                refine x_get g fl_X12_62 wm_0 rfl dX12_pair_95 ?_
                refine x_iload_n g 3 dX12_pair_98 rfl rfl ?_
                refine x_iload_n g 2 dX12_pair_99 rfl rfl ?_
                refine x_iastB g wm_18 (sm_18 _ _) dX12_pair_100 hf (fun σ4 hf => ?_)
                refine x_aload_n g 1 dX12_pair_101 rfl rfl ?_
                refine x_get g fl_X12_38 wm_0 rfl dX12_pair_102 ?_
                refine x_iload_n g 2 dX12_pair_105 rfl rfl ?_
                refine x_iald g wm_10 dX12_pair_106 hf (fun hf => ?_)
                refine x_aload_n g 1 dX12_pair_107 rfl rfl ?_
                refine x_get g fl_X12_38 wm_0 rfl dX12_pair_108 ?_
                refine x_iload_n g 3 dX12_pair_111 rfl rfl ?_
                refine x_iald g wm_10 dX12_pair_112 hf (fun hf => ?_)
                refine x_iadd g dX12_pair_113 ?_
                cases hf
                exact x_iret g rfl ho dX12_pair_114
              · refine x_bipush g (-103) dX12_pair_84 (by decide) ?_
                cases hf
                exact x_iret g rfl ho dX12_pair_86
            · refine x_bipush g (-103) dX12_pair_84 (by decide) ?_
              cases hf
              exact x_iret g rfl ho dX12_pair_86
          · refine x_iconst g 0 dX12_pair_58 (by decide) ?_
            refine x_istore_n (lv' := [(3, .int 0), (0, .ref (Ad 0)), (1, .int p1), (2, .int p2)]) g dX12_pair_59 rfl (by decide) rfl ?_
            refine x_aload_n g 1 dX12_pair_60 rfl rfl ?_
            refine x_get g fl_X12_62 wm_0 rfl dX12_pair_61 ?_
            refine x_iload_n g 2 dX12_pair_64 rfl rfl ?_
            refine x_iald g wm_18 dX12_pair_65 hf (fun hf => ?_)
            refine x_iconst g (-1) dX12_pair_66 (by decide) ?_
            refine x_icmp_ne g 84 dX12_pair_67 (by decide) hf (fun c67 hf => ?_) (fun c67 hf => ?_)
            · refine x_aload_n g 1 dX12_pair_70 rfl rfl ?_
              refine x_get g fl_X12_62 wm_0 rfl dX12_pair_71 ?_
              refine x_iload_n g 3 dX12_pair_74 rfl rfl ?_
              refine x_iald g wm_18 dX12_pair_75 hf (fun hf => ?_)
              refine x_iconst g (-1) dX12_pair_76 (by decide) ?_
              refine x_icmp_ne g 84 dX12_pair_77 (by decide) hf (fun c77 hf => ?_) (fun c77 hf => ?_)
              · refine x_iload_n g 0 dX12_pair_80 rfl rfl ?_
                refine x_if_ne_f g 87 dX12_pair_81 (by decide) (by decide) ?_
                refine x_bipush g (-103) dX12_pair_84 (by decide) ?_
                cases hf
                exact x_iret g rfl ho dX12_pair_86
              · refine x_bipush g (-103) dX12_pair_84 (by decide) ?_
                cases hf
                exact x_iret g rfl ho dX12_pair_86
            · refine x_bipush g (-103) dX12_pair_84 (by decide) ?_
              cases hf
              exact x_iret g rfl ho dX12_pair_86
        · refine x_iconst g 0 dX12_pair_58 (by decide) ?_
          refine x_istore_n (lv' := [(3, .int 0), (0, .ref (Ad 0)), (1, .int p1), (2, .int p2)]) g dX12_pair_59 rfl (by decide) rfl ?_
          refine x_aload_n g 1 dX12_pair_60 rfl rfl ?_
          refine x_get g fl_X12_62 wm_0 rfl dX12_pair_61 ?_
          refine x_iload_n g 2 dX12_pair_64 rfl rfl ?_
          refine x_iald g wm_18 dX12_pair_65 hf (fun hf => ?_)
          refine x_iconst g (-1) dX12_pair_66 (by decide) ?_
          refine x_icmp_ne g 84 dX12_pair_67 (by decide) hf (fun c67 hf => ?_) (fun c67 hf => ?_)
          · refine x_aload_n g 1 dX12_pair_70 rfl rfl ?_
            refine x_get g fl_X12_62 wm_0 rfl dX12_pair_71 ?_
            refine x_iload_n g 3 dX12_pair_74 rfl rfl ?_
            refine x_iald g wm_18 dX12_pair_75 hf (fun hf => ?_)
            refine x_iconst g (-1) dX12_pair_76 (by decide) ?_
            refine x_icmp_ne g 84 dX12_pair_77 (by decide) hf (fun c77 hf => ?_) (fun c77 hf => ?_)
            · refine x_iload_n g 0 dX12_pair_80 rfl rfl ?_
              refine x_if_ne_f g 87 dX12_pair_81 (by decide) (by decide) ?_
              refine x_bipush g (-103) dX12_pair_84 (by decide) ?_
              cases hf
              exact x_iret g rfl ho dX12_pair_86
            · refine x_bipush g (-103) dX12_pair_84 (by decide) ?_
              cases hf
              exact x_iret g rfl ho dX12_pair_86
          · refine x_bipush g (-103) dX12_pair_84 (by decide) ?_
            cases hf
            exact x_iret g rfl ho dX12_pair_86
/-! SlotChipModel.move(I)I -/
def f_X12_move (σ : St) (p1 : Int32) : Option (St × Int32) :=
  (f_X12_isCircuit σ p1).bind fun r1 =>
  if r1 = 0 then
    some (σ, (-101))
  else
    ((f_X12_underWay σ p1).bind fun r2 =>
    if 0 < r2 then
      some (σ, (-103))
    else
      (chk (inb p1 8) (
        chk (inb p1 8) (
          chk (inb p1 8) (
            chk (inb p1 8) (
              (f_X12_findWay σ (σ.1 10 0 (Int32.toNatClampNeg p1)) (σ.1 11 0 (Int32.toNatClampNeg p1)) (σ.1 12 0 (Int32.toNatClampNeg p1)) (σ.1 13 0 (Int32.toNatClampNeg p1)) p1).bind fun (σ4, r3) =>
              if r3 = (-1) then
                some (σ4, (-103))
              else
                ((f_X12_layWay σ4 p1 r3).bind fun σ6 =>
                chk (inb p1 8) (
                  some (σ6, (σ6.1 15 0 (Int32.toNatClampNeg p1)))))))))))
set_option maxHeartbeats 4000000 in
set_option maxRecDepth 100000 in
theorem c_X12_move {l : Launch} {D : va_G} {cy : Nat → ClassId} {Ad : Nat → Nat} (hA : AdOK 37 Ad) {σ : St} {p1 : Int32} {o : (St × Int32)} (hf : f_X12_move σ p1 = some o) : CT l (wM cy Ad) D cy (AdA 37 Ad) yX12_move cX12_move 3 (some .int) 5 [.ref (Ad 0), .int p1] σ (o.1, (some (.int o.2))) := by
  refine CT.of mf_X12_move (wM_D hA) (Nat.le_of_ble_eq_true rfl) ?_
  intro E xl g
  have ho : ((o.1, (some (.int o.2))) : St × Option Value) = (o.1, (some (.int o.2))) := rfl
  unfold f_X12_move at hf
  show XJ E (wM cy Ad σ) 0 [(0, .ref (Ad 0)), (1, .int p1)] []
  refine x_aload_n g 0 dX12_move_0 rfl rfl ?_
  refine x_iload_n g 1 dX12_move_1 rfl rfl ?_
  obtain ⟨r1, hgr1, hf⟩ := obind hf
  refine x_callV (r := (RX12, TX12, 53)) g xl [.int p1] [] [.int r1] (c_X12_isCircuit hA hgr1) mf_X12_isCircuit im_X12_isCircuit se_X12_isCircuit ml_X12_291 rfl wm_0 (by decide) (by decide) rfl (Nat.le_of_ble_eq_true rfl) dX12_move_2 rfl rfl ?_
  refine x_if_ne g 11 dX12_move_5 (by decide) hf (fun c5 hf => ?_) (fun c5 hf => ?_)
  · refine x_bipush g (-101) dX12_move_8 (by decide) ?_
    cases hf
    exact x_iret g rfl ho dX12_move_10
  · refine x_aload_n g 0 dX12_move_11 rfl rfl ?_
    refine x_iload_n g 1 dX12_move_12 rfl rfl ?_
    obtain ⟨r2, hgr2, hf⟩ := obind hf
    refine x_callV (r := (RX12, TX12, 53)) g xl [.int p1] [] [.int r2] (c_X12_underWay hA hgr2) mf_X12_underWay im_X12_underWay se_X12_underWay ml_X12_297 rfl wm_0 (by decide) (by decide) rfl (Nat.le_of_ble_eq_true rfl) dX12_move_13 rfl rfl ?_
    refine x_if_le g 22 dX12_move_16 (by decide) hf (fun c16 hf => ?_) (fun c16 hf => ?_)
    · refine x_bipush g (-103) dX12_move_19 (by decide) ?_
      cases hf
      exact x_iret g rfl ho dX12_move_21
    · refine x_aload_n g 0 dX12_move_22 rfl rfl ?_
      refine x_aload_n g 0 dX12_move_23 rfl rfl ?_
      refine x_get g fl_X12_23 wm_0 rfl dX12_move_24 ?_
      refine x_iload_n g 1 dX12_move_27 rfl rfl ?_
      refine x_iald g wm_5 dX12_move_28 hf (fun hf => ?_)
      refine x_aload_n g 0 dX12_move_29 rfl rfl ?_
      refine x_get g fl_X12_26 wm_0 rfl dX12_move_30 ?_
      refine x_iload_n g 1 dX12_move_33 rfl rfl ?_
      refine x_iald g wm_6 dX12_move_34 hf (fun hf => ?_)
      refine x_aload_n g 0 dX12_move_35 rfl rfl ?_
      refine x_get g fl_X12_29 wm_0 rfl dX12_move_36 ?_
      refine x_iload_n g 1 dX12_move_39 rfl rfl ?_
      refine x_iald g wm_7 dX12_move_40 hf (fun hf => ?_)
      refine x_aload_n g 0 dX12_move_41 rfl rfl ?_
      refine x_get g fl_X12_32 wm_0 rfl dX12_move_42 ?_
      refine x_iload_n g 1 dX12_move_45 rfl rfl ?_
      refine x_iald g wm_8 dX12_move_46 hf (fun hf => ?_)
      refine x_iload_n g 1 dX12_move_47 rfl rfl ?_
      obtain ⟨⟨σ4, r3⟩, hgr3, hf⟩ := obind hf
      refine x_callV (r := (RX12, TX12, 53)) g xl [.int (σ.1 10 0 (Int32.toNatClampNeg p1)), .int (σ.1 11 0 (Int32.toNatClampNeg p1)), .int (σ.1 12 0 (Int32.toNatClampNeg p1)), .int (σ.1 13 0 (Int32.toNatClampNeg p1)), .int p1] [] [.int r3] (c_X12_findWay hA hgr3) mf_X12_findWay im_X12_findWay se_X12_findWay ml_X12_279 rfl wm_0 (by decide) (by decide) rfl (Nat.le_of_ble_eq_true rfl) dX12_move_48 rfl rfl ?_
      refine x_istore_n (lv' := [(2, .int r3), (0, .ref (Ad 0)), (1, .int p1)]) g dX12_move_51 rfl (by decide) rfl ?_
      refine x_iload_n g 0 dX12_move_52 rfl rfl ?_
      refine x_iconst g (-1) dX12_move_53 (by decide) ?_
      refine x_icmp_ne g 60 dX12_move_54 (by decide) hf (fun c54 hf => ?_) (fun c54 hf => ?_)
      · refine x_bipush g (-103) dX12_move_57 (by decide) ?_
        cases hf
        exact x_iret g rfl ho dX12_move_59
      · refine x_aload_n g 1 dX12_move_60 rfl rfl ?_
        refine x_iload_n g 2 dX12_move_61 rfl rfl ?_
        refine x_iload_n g 0 dX12_move_62 rfl rfl ?_
        obtain ⟨σ6, hgr5, hf⟩ := obind hf
        refine x_callV (r := (RX12, TX12, 53)) g xl [.int p1, .int r3] [] [] (c_X12_layWay hA hgr5) mf_X12_layWay im_X12_layWay se_X12_layWay ml_X12_283 rfl wm_0 (by decide) (by decide) rfl (Nat.le_of_ble_eq_true rfl) dX12_move_63 rfl rfl ?_
        refine x_aload_n g 1 dX12_move_66 rfl rfl ?_
        refine x_get g fl_X12_38 wm_0 rfl dX12_move_67 ?_
        refine x_iload_n g 2 dX12_move_70 rfl rfl ?_
        refine x_iald g wm_10 dX12_move_71 hf (fun hf => ?_)
        cases hf
        exact x_iret g rfl ho dX12_move_72
/-! SlotChipModel.close(I)I -/
def f_X12_close (σ : St) (p1 : Int32) : Option (St × Int32) :=
  (f_X12_isCircuit σ p1).bind fun r1 =>
  if r1 = 0 then
    some (σ, (-101))
  else
    (chk (inb p1 8) (
      bnd (σ.1 23 0 (Int32.toNatClampNeg p1)) fun y2 =>
      (f_X12_underWay σ p1).bind fun r3 =>
      if r3 ≤ 0 then
        (if y2 = (-1) then
          (if y2 = (-1) then
            (chk (inb p1 8) (
              bnd (si σ 9 0 (Int32.toNatClampNeg p1) 0) fun σ4 =>
              chk (inb p1 8) (
                some (σ4, (σ4.1 18 0 (Int32.toNatClampNeg p1))))))
          else
            (chk (inb y2 8) (
              bnd (si σ 23 0 (Int32.toNatClampNeg y2) (-1)) fun σ5 =>
              chk (inb p1 8) (
                bnd (si σ5 9 0 (Int32.toNatClampNeg p1) 0) fun σ6 =>
                chk (inb p1 8) (
                  some (σ6, (σ6.1 18 0 (Int32.toNatClampNeg p1))))))))
        else
          ((f_X12_underWay σ y2).bind fun r7 =>
          if 0 < r7 then
            some (σ, (-103))
          else
            (if y2 = (-1) then
              (chk (inb p1 8) (
                bnd (si σ 9 0 (Int32.toNatClampNeg p1) 0) fun σ8 =>
                chk (inb p1 8) (
                  some (σ8, (σ8.1 18 0 (Int32.toNatClampNeg p1))))))
            else
              (chk (inb y2 8) (
                bnd (si σ 23 0 (Int32.toNatClampNeg y2) (-1)) fun σ9 =>
                chk (inb p1 8) (
                  bnd (si σ9 9 0 (Int32.toNatClampNeg p1) 0) fun σ10 =>
                  chk (inb p1 8) (
                    some (σ10, (σ10.1 18 0 (Int32.toNatClampNeg p1))))))))))
      else
        some (σ, (-103))))
set_option maxHeartbeats 4000000 in
set_option maxRecDepth 100000 in
theorem c_X12_close {l : Launch} {D : va_G} {cy : Nat → ClassId} {Ad : Nat → Nat} (hA : AdOK 37 Ad) {σ : St} {p1 : Int32} {o : (St × Int32)} (hf : f_X12_close σ p1 = some o) : CT l (wM cy Ad) D cy (AdA 37 Ad) yX12_close cX12_close 3 (some .int) 2 [.ref (Ad 0), .int p1] σ (o.1, (some (.int o.2))) := by
  refine CT.of mf_X12_close (wM_D hA) (Nat.le_of_ble_eq_true rfl) ?_
  intro E xl g
  have ho : ((o.1, (some (.int o.2))) : St × Option Value) = (o.1, (some (.int o.2))) := rfl
  unfold f_X12_close at hf
  show XJ E (wM cy Ad σ) 0 [(0, .ref (Ad 0)), (1, .int p1)] []
  refine x_aload_n g 0 dX12_close_0 rfl rfl ?_
  refine x_iload_n g 1 dX12_close_1 rfl rfl ?_
  obtain ⟨r1, hgr1, hf⟩ := obind hf
  refine x_callV (r := (RX12, TX12, 53)) g xl [.int p1] [] [.int r1] (c_X12_isCircuit hA hgr1) mf_X12_isCircuit im_X12_isCircuit se_X12_isCircuit ml_X12_291 rfl wm_0 (by decide) (by decide) rfl (Nat.le_of_ble_eq_true rfl) dX12_close_2 rfl rfl ?_
  refine x_if_ne g 11 dX12_close_5 (by decide) hf (fun c5 hf => ?_) (fun c5 hf => ?_)
  · refine x_bipush g (-101) dX12_close_8 (by decide) ?_
    cases hf
    exact x_iret g rfl ho dX12_close_10
  · refine x_aload_n g 0 dX12_close_11 rfl rfl ?_
    refine x_get g fl_X12_62 wm_0 rfl dX12_close_12 ?_
    refine x_iload_n g 1 dX12_close_15 rfl rfl ?_
    refine x_iald g wm_18 dX12_close_16 hf (fun hf => ?_)
    refine x_nami hf (fun y2 hf => ?_)
    refine x_istore_n (lv' := [(2, .int y2), (0, .ref (Ad 0)), (1, .int p1)]) g dX12_close_17 rfl (by decide) rfl ?_
    refine x_aload_n g 1 dX12_close_18 rfl rfl ?_
    refine x_iload_n g 2 dX12_close_19 rfl rfl ?_
    obtain ⟨r3, hgr3, hf⟩ := obind hf
    refine x_callV (r := (RX12, TX12, 53)) g xl [.int p1] [] [.int r3] (c_X12_underWay hA hgr3) mf_X12_underWay im_X12_underWay se_X12_underWay ml_X12_297 rfl wm_0 (by decide) (by decide) rfl (Nat.le_of_ble_eq_true rfl) dX12_close_20 rfl rfl ?_
    refine x_if_gt g 39 dX12_close_23 (by decide) hf (fun c23 hf => ?_) (fun c23 hf => ?_)
    · refine x_iload_n g 0 dX12_close_26 rfl rfl ?_
      refine x_iconst g (-1) dX12_close_27 (by decide) ?_
      refine x_icmp_eq g 42 dX12_close_28 (by decide) hf (fun c28 hf => ?_) (fun c28 hf => ?_)
      · refine x_iload_n g 0 dX12_close_42 rfl rfl ?_
        refine x_iconst g (-1) dX12_close_43 (by decide) ?_
        refine x_icmp_eq g 54 dX12_close_44 (by decide) hf (fun c44 hf => ?_) (fun c44 hf => ?_)
        · refine x_aload_n g 1 dX12_close_54 rfl rfl ?_
          refine x_get g fl_X12_20 wm_0 rfl dX12_close_55 ?_
          refine x_iload_n g 2 dX12_close_58 rfl rfl ?_
          refine x_iconst g 0 dX12_close_59 (by decide) ?_
          refine x_zastB g 0 rfl wm_4 (sm_4 _ _) dX12_close_60 hf (fun σ4 hf => ?_)
          refine x_aload_n g 1 dX12_close_61 rfl rfl ?_
          refine x_get g fl_X12_47 wm_0 rfl dX12_close_62 ?_
          refine x_iload_n g 2 dX12_close_65 rfl rfl ?_
          refine x_iald g wm_13 dX12_close_66 hf (fun hf => ?_)
          cases hf
          exact x_iret g rfl ho dX12_close_67
        · refine x_aload_n g 1 dX12_close_47 rfl rfl ?_
          refine x_get g fl_X12_62 wm_0 rfl dX12_close_48 ?_
          refine x_iload_n g 0 dX12_close_51 rfl rfl ?_
          refine x_iconst g (-1) dX12_close_52 (by decide) ?_
          refine x_iastB g wm_18 (sm_18 _ _) dX12_close_53 hf (fun σ5 hf => ?_)
          refine x_aload_n g 1 dX12_close_54 rfl rfl ?_
          refine x_get g fl_X12_20 wm_0 rfl dX12_close_55 ?_
          refine x_iload_n g 2 dX12_close_58 rfl rfl ?_
          refine x_iconst g 0 dX12_close_59 (by decide) ?_
          refine x_zastB g 0 rfl wm_4 (sm_4 _ _) dX12_close_60 hf (fun σ6 hf => ?_)
          refine x_aload_n g 1 dX12_close_61 rfl rfl ?_
          refine x_get g fl_X12_47 wm_0 rfl dX12_close_62 ?_
          refine x_iload_n g 2 dX12_close_65 rfl rfl ?_
          refine x_iald g wm_13 dX12_close_66 hf (fun hf => ?_)
          cases hf
          exact x_iret g rfl ho dX12_close_67
      · refine x_aload_n g 1 dX12_close_31 rfl rfl ?_
        refine x_iload_n g 0 dX12_close_32 rfl rfl ?_
        obtain ⟨r7, hgr7, hf⟩ := obind hf
        refine x_callV (r := (RX12, TX12, 53)) g xl [.int y2] [] [.int r7] (c_X12_underWay hA hgr7) mf_X12_underWay im_X12_underWay se_X12_underWay ml_X12_297 rfl wm_0 (by decide) (by decide) rfl (Nat.le_of_ble_eq_true rfl) dX12_close_33 rfl rfl ?_
        refine x_if_le g 42 dX12_close_36 (by decide) hf (fun c36 hf => ?_) (fun c36 hf => ?_)
        · refine x_bipush g (-103) dX12_close_39 (by decide) ?_
          cases hf
          exact x_iret g rfl ho dX12_close_41
        · refine x_iload_n g 0 dX12_close_42 rfl rfl ?_
          refine x_iconst g (-1) dX12_close_43 (by decide) ?_
          refine x_icmp_eq g 54 dX12_close_44 (by decide) hf (fun c44 hf => ?_) (fun c44 hf => ?_)
          · refine x_aload_n g 1 dX12_close_54 rfl rfl ?_
            refine x_get g fl_X12_20 wm_0 rfl dX12_close_55 ?_
            refine x_iload_n g 2 dX12_close_58 rfl rfl ?_
            refine x_iconst g 0 dX12_close_59 (by decide) ?_
            refine x_zastB g 0 rfl wm_4 (sm_4 _ _) dX12_close_60 hf (fun σ8 hf => ?_)
            refine x_aload_n g 1 dX12_close_61 rfl rfl ?_
            refine x_get g fl_X12_47 wm_0 rfl dX12_close_62 ?_
            refine x_iload_n g 2 dX12_close_65 rfl rfl ?_
            refine x_iald g wm_13 dX12_close_66 hf (fun hf => ?_)
            cases hf
            exact x_iret g rfl ho dX12_close_67
          · refine x_aload_n g 1 dX12_close_47 rfl rfl ?_
            refine x_get g fl_X12_62 wm_0 rfl dX12_close_48 ?_
            refine x_iload_n g 0 dX12_close_51 rfl rfl ?_
            refine x_iconst g (-1) dX12_close_52 (by decide) ?_
            refine x_iastB g wm_18 (sm_18 _ _) dX12_close_53 hf (fun σ9 hf => ?_)
            refine x_aload_n g 1 dX12_close_54 rfl rfl ?_
            refine x_get g fl_X12_20 wm_0 rfl dX12_close_55 ?_
            refine x_iload_n g 2 dX12_close_58 rfl rfl ?_
            refine x_iconst g 0 dX12_close_59 (by decide) ?_
            refine x_zastB g 0 rfl wm_4 (sm_4 _ _) dX12_close_60 hf (fun σ10 hf => ?_)
            refine x_aload_n g 1 dX12_close_61 rfl rfl ?_
            refine x_get g fl_X12_47 wm_0 rfl dX12_close_62 ?_
            refine x_iload_n g 2 dX12_close_65 rfl rfl ?_
            refine x_iald g wm_13 dX12_close_66 hf (fun hf => ?_)
            cases hf
            exact x_iret g rfl ho dX12_close_67
    · refine x_bipush g (-103) dX12_close_39 (by decide) ?_
      cases hf
      exact x_iret g rfl ho dX12_close_41
/-! SlotChipModel.feed(II)I -/
def f_X12_feed (σ : St) (p1 : Int32) (p2 : Int32) : Option (St × Int32) :=
  (f_X12_isCircuit σ p1).bind fun r1 =>
  if r1 = 0 then
    some (σ, (-101))
  else
    ((f_X12_within p2 1 99).bind fun r2 =>
    if r2 = 0 then
      some (σ, (-102))
    else
      (chk (inb p1 8) (
        if 99 < ((σ.1 18 0 (Int32.toNatClampNeg p1)) + p2) then
          some (σ, (-104))
        else
          (chk (inb p1 8) (
            chk (inb p1 8) (
              bnd (si σ 18 0 (Int32.toNatClampNeg p1) ((σ.1 18 0 (Int32.toNatClampNeg p1)) + p2)) fun σ3 =>
              chk (inb p1 8) (
                some (σ3, (σ3.1 18 0 (Int32.toNatClampNeg p1))))))))))
set_option maxHeartbeats 4000000 in
set_option maxRecDepth 100000 in
theorem c_X12_feed {l : Launch} {D : va_G} {cy : Nat → ClassId} {Ad : Nat → Nat} (hA : AdOK 37 Ad) {σ : St} {p1 : Int32} {p2 : Int32} {o : (St × Int32)} (hf : f_X12_feed σ p1 p2 = some o) : CT l (wM cy Ad) D cy (AdA 37 Ad) yX12_feed cX12_feed 3 (some .int) 2 [.ref (Ad 0), .int p1, .int p2] σ (o.1, (some (.int o.2))) := by
  refine CT.of mf_X12_feed (wM_D hA) (Nat.le_of_ble_eq_true rfl) ?_
  intro E xl g
  have ho : ((o.1, (some (.int o.2))) : St × Option Value) = (o.1, (some (.int o.2))) := rfl
  unfold f_X12_feed at hf
  show XJ E (wM cy Ad σ) 0 [(0, .ref (Ad 0)), (1, .int p1), (2, .int p2)] []
  refine x_aload_n g 0 dX12_feed_0 rfl rfl ?_
  refine x_iload_n g 1 dX12_feed_1 rfl rfl ?_
  obtain ⟨r1, hgr1, hf⟩ := obind hf
  refine x_callV (r := (RX12, TX12, 53)) g xl [.int p1] [] [.int r1] (c_X12_isCircuit hA hgr1) mf_X12_isCircuit im_X12_isCircuit se_X12_isCircuit ml_X12_291 rfl wm_0 (by decide) (by decide) rfl (Nat.le_of_ble_eq_true rfl) dX12_feed_2 rfl rfl ?_
  refine x_if_ne g 11 dX12_feed_5 (by decide) hf (fun c5 hf => ?_) (fun c5 hf => ?_)
  · refine x_bipush g (-101) dX12_feed_8 (by decide) ?_
    cases hf
    exact x_iret g rfl ho dX12_feed_10
  · refine x_iload_n g 2 dX12_feed_11 rfl rfl ?_
    refine x_iconst g 1 dX12_feed_12 (by decide) ?_
    refine x_bipush g 99 dX12_feed_13 (by decide) ?_
    obtain ⟨r2, hgr2, hf⟩ := obind hf
    refine x_callS g xl [.int p2, .int 1, .int 99] [] [.int r2] (c_X12_within hA hgr2) mf_X12_within sm_X12_within ml_X12_130 (by decide) (by decide) rfl (Nat.le_of_ble_eq_true rfl) dX12_feed_15 rfl rfl ?_
    refine x_if_ne g 24 dX12_feed_18 (by decide) hf (fun c18 hf => ?_) (fun c18 hf => ?_)
    · refine x_bipush g (-102) dX12_feed_21 (by decide) ?_
      cases hf
      exact x_iret g rfl ho dX12_feed_23
    · refine x_aload_n g 0 dX12_feed_24 rfl rfl ?_
      refine x_get g fl_X12_47 wm_0 rfl dX12_feed_25 ?_
      refine x_iload_n g 1 dX12_feed_28 rfl rfl ?_
      refine x_iald g wm_13 dX12_feed_29 hf (fun hf => ?_)
      refine x_iload_n g 2 dX12_feed_30 rfl rfl ?_
      refine x_iadd g dX12_feed_31 ?_
      refine x_bipush g 99 dX12_feed_32 (by decide) ?_
      refine x_icmp_le g 40 dX12_feed_34 (by decide) hf (fun c34 hf => ?_) (fun c34 hf => ?_)
      · refine x_bipush g (-104) dX12_feed_37 (by decide) ?_
        cases hf
        exact x_iret g rfl ho dX12_feed_39
      · refine x_aload_n g 0 dX12_feed_40 rfl rfl ?_
        refine x_get g fl_X12_47 wm_0 rfl dX12_feed_41 ?_
        refine x_iload_n g 1 dX12_feed_44 rfl rfl ?_
        refine x_dup2 g dX12_feed_45 rfl rfl ?_
        refine x_iald g wm_13 dX12_feed_46 hf (fun hf => ?_)
        refine x_iload_n g 2 dX12_feed_47 rfl rfl ?_
        refine x_iadd g dX12_feed_48 ?_
        refine x_iastB g wm_13 (sm_13 _ _) dX12_feed_49 hf (fun σ3 hf => ?_)
        refine x_aload_n g 0 dX12_feed_50 rfl rfl ?_
        refine x_get g fl_X12_47 wm_0 rfl dX12_feed_51 ?_
        refine x_iload_n g 1 dX12_feed_54 rfl rfl ?_
        refine x_iald g wm_13 dX12_feed_55 hf (fun hf => ?_)
        cases hf
        exact x_iret g rfl ho dX12_feed_56
/-! SlotChipModel.take(II)I -/
def f_X12_take (σ : St) (p1 : Int32) (p2 : Int32) : Option (St × Int32) :=
  (f_X12_isCircuit σ p1).bind fun r1 =>
  if r1 = 0 then
    some (σ, (-101))
  else
    ((f_X12_within p2 1 99).bind fun r2 =>
    if r2 = 0 then
      some (σ, (-102))
    else
      (chk (inb p1 8) (
        if (σ.1 20 0 (Int32.toNatClampNeg p1)) < p2 then
          some (σ, (-103))
        else
          (chk (inb p1 8) (
            chk (inb p1 8) (
              bnd (si σ 20 0 (Int32.toNatClampNeg p1) ((σ.1 20 0 (Int32.toNatClampNeg p1)) - p2)) fun σ3 =>
              chk (inb p1 8) (
                chk (inb p1 8) (
                  bnd (si σ3 21 0 (Int32.toNatClampNeg p1) ((σ3.1 21 0 (Int32.toNatClampNeg p1)) + p2)) fun σ4 =>
                  chk (inb p1 8) (
                    some (σ4, (σ4.1 20 0 (Int32.toNatClampNeg p1))))))))))))
set_option maxHeartbeats 4000000 in
set_option maxRecDepth 100000 in
theorem c_X12_take {l : Launch} {D : va_G} {cy : Nat → ClassId} {Ad : Nat → Nat} (hA : AdOK 37 Ad) {σ : St} {p1 : Int32} {p2 : Int32} {o : (St × Int32)} (hf : f_X12_take σ p1 p2 = some o) : CT l (wM cy Ad) D cy (AdA 37 Ad) yX12_take cX12_take 3 (some .int) 2 [.ref (Ad 0), .int p1, .int p2] σ (o.1, (some (.int o.2))) := by
  refine CT.of mf_X12_take (wM_D hA) (Nat.le_of_ble_eq_true rfl) ?_
  intro E xl g
  have ho : ((o.1, (some (.int o.2))) : St × Option Value) = (o.1, (some (.int o.2))) := rfl
  unfold f_X12_take at hf
  show XJ E (wM cy Ad σ) 0 [(0, .ref (Ad 0)), (1, .int p1), (2, .int p2)] []
  refine x_aload_n g 0 dX12_take_0 rfl rfl ?_
  refine x_iload_n g 1 dX12_take_1 rfl rfl ?_
  obtain ⟨r1, hgr1, hf⟩ := obind hf
  refine x_callV (r := (RX12, TX12, 53)) g xl [.int p1] [] [.int r1] (c_X12_isCircuit hA hgr1) mf_X12_isCircuit im_X12_isCircuit se_X12_isCircuit ml_X12_291 rfl wm_0 (by decide) (by decide) rfl (Nat.le_of_ble_eq_true rfl) dX12_take_2 rfl rfl ?_
  refine x_if_ne g 11 dX12_take_5 (by decide) hf (fun c5 hf => ?_) (fun c5 hf => ?_)
  · refine x_bipush g (-101) dX12_take_8 (by decide) ?_
    cases hf
    exact x_iret g rfl ho dX12_take_10
  · refine x_iload_n g 2 dX12_take_11 rfl rfl ?_
    refine x_iconst g 1 dX12_take_12 (by decide) ?_
    refine x_bipush g 99 dX12_take_13 (by decide) ?_
    obtain ⟨r2, hgr2, hf⟩ := obind hf
    refine x_callS g xl [.int p2, .int 1, .int 99] [] [.int r2] (c_X12_within hA hgr2) mf_X12_within sm_X12_within ml_X12_130 (by decide) (by decide) rfl (Nat.le_of_ble_eq_true rfl) dX12_take_15 rfl rfl ?_
    refine x_if_ne g 24 dX12_take_18 (by decide) hf (fun c18 hf => ?_) (fun c18 hf => ?_)
    · refine x_bipush g (-102) dX12_take_21 (by decide) ?_
      cases hf
      exact x_iret g rfl ho dX12_take_23
    · refine x_aload_n g 0 dX12_take_24 rfl rfl ?_
      refine x_get g fl_X12_53 wm_0 rfl dX12_take_25 ?_
      refine x_iload_n g 1 dX12_take_28 rfl rfl ?_
      refine x_iald g wm_15 dX12_take_29 hf (fun hf => ?_)
      refine x_iload_n g 2 dX12_take_30 rfl rfl ?_
      refine x_icmp_ge g 37 dX12_take_31 (by decide) hf (fun c31 hf => ?_) (fun c31 hf => ?_)
      · refine x_bipush g (-103) dX12_take_34 (by decide) ?_
        cases hf
        exact x_iret g rfl ho dX12_take_36
      · refine x_aload_n g 0 dX12_take_37 rfl rfl ?_
        refine x_get g fl_X12_53 wm_0 rfl dX12_take_38 ?_
        refine x_iload_n g 1 dX12_take_41 rfl rfl ?_
        refine x_dup2 g dX12_take_42 rfl rfl ?_
        refine x_iald g wm_15 dX12_take_43 hf (fun hf => ?_)
        refine x_iload_n g 2 dX12_take_44 rfl rfl ?_
        refine x_isub g dX12_take_45 ?_
        refine x_iastB g wm_15 (sm_15 _ _) dX12_take_46 hf (fun σ3 hf => ?_)
        refine x_aload_n g 0 dX12_take_47 rfl rfl ?_
        refine x_get g fl_X12_56 wm_0 rfl dX12_take_48 ?_
        refine x_iload_n g 1 dX12_take_51 rfl rfl ?_
        refine x_dup2 g dX12_take_52 rfl rfl ?_
        refine x_iald g wm_16 dX12_take_53 hf (fun hf => ?_)
        refine x_iload_n g 2 dX12_take_54 rfl rfl ?_
        refine x_iadd g dX12_take_55 ?_
        refine x_iastB g wm_16 (sm_16 _ _) dX12_take_56 hf (fun σ4 hf => ?_)
        refine x_aload_n g 0 dX12_take_57 rfl rfl ?_
        refine x_get g fl_X12_53 wm_0 rfl dX12_take_58 ?_
        refine x_iload_n g 1 dX12_take_61 rfl rfl ?_
        refine x_iald g wm_15 dX12_take_62 hf (fun hf => ?_)
        cases hf
        exact x_iret g rfl ho dX12_take_63
/-! SlotChipModel.isFaster(II)Z -/
def f_X12_isFaster (σ : St) (p1 : Int32) (p2 : Int32) : Option Int32 :=
  chk (inb p1 8) (
    bnd (Int32.toInt64 (σ.1 22 0 (Int32.toNatClampNeg p1))) fun y1 =>
    chk (inb p2 8) (
      bnd (Int32.toInt64 (σ.1 22 0 (Int32.toNatClampNeg p2))) fun y2 =>
      chk (inb p1 8) (
        bnd ((σ.1 0 0 3) - (σ.1 24 0 (Int32.toNatClampNeg p1))) fun y3 =>
        chk (inb p2 8) (
          bnd ((σ.1 0 0 3) - (σ.1 24 0 (Int32.toNatClampNeg p2))) fun y4 =>
          if y3 = 0 then
            (if y4 = 0 then
              (if y4 = 0 then
                (if y3 = 0 then
                  (if 0 < (lg_cmp (0 * 1) (0 * 1)) then
                    some 1
                  else
                    some 0)
                else
                  (if 0 < (lg_cmp (0 * 1) (0 * (Int32.toInt64 y3))) then
                    some 1
                  else
                    some 0))
              else
                (if y3 = 0 then
                  (if 0 < (lg_cmp (0 * 1) (y2 * 1)) then
                    some 1
                  else
                    some 0)
                else
                  (if 0 < (lg_cmp (0 * 1) (y2 * (Int32.toInt64 y3))) then
                    some 1
                  else
                    some 0)))
            else
              (if y4 = 0 then
                (if y3 = 0 then
                  (if 0 < (lg_cmp (0 * (Int32.toInt64 y4)) (0 * 1)) then
                    some 1
                  else
                    some 0)
                else
                  (if 0 < (lg_cmp (0 * (Int32.toInt64 y4)) (0 * (Int32.toInt64 y3))) then
                    some 1
                  else
                    some 0))
              else
                (if y3 = 0 then
                  (if 0 < (lg_cmp (0 * (Int32.toInt64 y4)) (y2 * 1)) then
                    some 1
                  else
                    some 0)
                else
                  (if 0 < (lg_cmp (0 * (Int32.toInt64 y4)) (y2 * (Int32.toInt64 y3))) then
                    some 1
                  else
                    some 0))))
          else
            (if y4 = 0 then
              (if y4 = 0 then
                (if y3 = 0 then
                  (if 0 < (lg_cmp (y1 * 1) (0 * 1)) then
                    some 1
                  else
                    some 0)
                else
                  (if 0 < (lg_cmp (y1 * 1) (0 * (Int32.toInt64 y3))) then
                    some 1
                  else
                    some 0))
              else
                (if y3 = 0 then
                  (if 0 < (lg_cmp (y1 * 1) (y2 * 1)) then
                    some 1
                  else
                    some 0)
                else
                  (if 0 < (lg_cmp (y1 * 1) (y2 * (Int32.toInt64 y3))) then
                    some 1
                  else
                    some 0)))
            else
              (if y4 = 0 then
                (if y3 = 0 then
                  (if 0 < (lg_cmp (y1 * (Int32.toInt64 y4)) (0 * 1)) then
                    some 1
                  else
                    some 0)
                else
                  (if 0 < (lg_cmp (y1 * (Int32.toInt64 y4)) (0 * (Int32.toInt64 y3))) then
                    some 1
                  else
                    some 0))
              else
                (if y3 = 0 then
                  (if 0 < (lg_cmp (y1 * (Int32.toInt64 y4)) (y2 * 1)) then
                    some 1
                  else
                    some 0)
                else
                  (if 0 < (lg_cmp (y1 * (Int32.toInt64 y4)) (y2 * (Int32.toInt64 y3))) then
                    some 1
                  else
                    some 0))))))))
set_option maxHeartbeats 4000000 in
set_option maxRecDepth 100000 in
theorem c_X12_isFaster {l : Launch} {D : va_G} {cy : Nat → ClassId} {Ad : Nat → Nat} (hA : AdOK 37 Ad) {σ : St} {p1 : Int32} {p2 : Int32} {o : Int32} (hf : f_X12_isFaster σ p1 p2 = some o) : CT l (wM cy Ad) D cy (AdA 37 Ad) yX12_isFaster cX12_isFaster 9 (some .boolean) 0 [.ref (Ad 0), .int p1, .int p2] σ (σ, (some (.int o))) := by
  refine CT.of mf_X12_isFaster (wM_D hA) (Nat.le_of_ble_eq_true rfl) ?_
  intro E xl g
  have ho : ((σ, (some (.int o))) : St × Option Value) = (σ, (some (.int o))) := rfl
  unfold f_X12_isFaster at hf
  show XJ E (wM cy Ad σ) 0 [(0, .ref (Ad 0)), (1, .int p1), (2, .int p2)] []
  refine x_aload_n g 0 dX12_isFaster_0 rfl rfl ?_
  refine x_get g fl_X12_59 wm_0 rfl dX12_isFaster_1 ?_
  refine x_iload_n g 1 dX12_isFaster_4 rfl rfl ?_
  refine x_iald g wm_17 dX12_isFaster_5 hf (fun hf => ?_)
  refine x_i2l g dX12_isFaster_6 ?_
  refine x_naml hf (fun y1 hf => ?_)
  refine x_lstore_n (lv' := [(3, .long y1), (0, .ref (Ad 0)), (1, .int p1), (2, .int p2)]) g dX12_isFaster_7 rfl (by decide) rfl ?_
  refine x_aload_n g 1 dX12_isFaster_8 rfl rfl ?_
  refine x_get g fl_X12_59 wm_0 rfl dX12_isFaster_9 ?_
  refine x_iload_n g 3 dX12_isFaster_12 rfl rfl ?_
  refine x_iald g wm_17 dX12_isFaster_13 hf (fun hf => ?_)
  refine x_i2l g dX12_isFaster_14 ?_
  refine x_naml hf (fun y2 hf => ?_)
  refine x_lstore (lv' := [(5, .long y2), (3, .long y1), (0, .ref (Ad 0)), (1, .int p1), (2, .int p2)]) g dX12_isFaster_15 (by decide) rfl ?_
  refine x_aload_n g 2 dX12_isFaster_17 rfl rfl ?_
  refine x_get g fl_X12_188 wm_0 rfl dX12_isFaster_18 ?_
  refine x_aload_n g 2 dX12_isFaster_21 rfl rfl ?_
  refine x_get g fl_X12_65 wm_0 rfl dX12_isFaster_22 ?_
  refine x_iload_n g 3 dX12_isFaster_25 rfl rfl ?_
  refine x_iald g wm_19 dX12_isFaster_26 hf (fun hf => ?_)
  refine x_isub g dX12_isFaster_27 ?_
  refine x_nami hf (fun y3 hf => ?_)
  refine x_istore (lv' := [(7, .int y3), (5, .long y2), (3, .long y1), (0, .ref (Ad 0)), (1, .int p1), (2, .int p2)]) g dX12_isFaster_28 (by decide) rfl ?_
  refine x_aload_n g 3 dX12_isFaster_30 rfl rfl ?_
  refine x_get g fl_X12_188 wm_0 rfl dX12_isFaster_31 ?_
  refine x_aload_n g 3 dX12_isFaster_34 rfl rfl ?_
  refine x_get g fl_X12_65 wm_0 rfl dX12_isFaster_35 ?_
  refine x_iload_n g 5 dX12_isFaster_38 rfl rfl ?_
  refine x_iald g wm_19 dX12_isFaster_39 hf (fun hf => ?_)
  refine x_isub g dX12_isFaster_40 ?_
  refine x_nami hf (fun y4 hf => ?_)
  refine x_istore (lv' := [(8, .int y4), (7, .int y3), (5, .long y2), (3, .long y1), (0, .ref (Ad 0)), (1, .int p1), (2, .int p2)]) g dX12_isFaster_41 (by decide) rfl ?_
  refine x_iload g 1 dX12_isFaster_43 rfl ?_
  refine x_if_ne g 52 dX12_isFaster_45 (by decide) hf (fun c45 hf => ?_) (fun c45 hf => ?_)
  · refine x_lconst g 0 dX12_isFaster_48 (by decide) ?_
    refine x_goto g 53 dX12_isFaster_49 (by decide) ?_
    refine x_iload g 0 dX12_isFaster_53 rfl ?_
    refine x_if_ne g 62 dX12_isFaster_55 (by decide) hf (fun c55 hf => ?_) (fun c55 hf => ?_)
    · refine x_lconst g 1 dX12_isFaster_58 (by decide) ?_
      refine x_goto g 65 dX12_isFaster_59 (by decide) ?_
      refine x_lmul g dX12_isFaster_65 ?_
      refine x_iload g 0 dX12_isFaster_66 rfl ?_
      refine x_if_ne g 75 dX12_isFaster_68 (by decide) hf (fun c68 hf => ?_) (fun c68 hf => ?_)
      · refine x_lconst g 0 dX12_isFaster_71 (by decide) ?_
        refine x_goto g 77 dX12_isFaster_72 (by decide) ?_
        refine x_iload g 1 dX12_isFaster_77 rfl ?_
        refine x_if_ne g 86 dX12_isFaster_79 (by decide) hf (fun c79 hf => ?_) (fun c79 hf => ?_)
        · refine x_lconst g 1 dX12_isFaster_82 (by decide) ?_
          refine x_goto g 89 dX12_isFaster_83 (by decide) ?_
          refine x_lmul g dX12_isFaster_89 ?_
          refine x_lcmp g dX12_isFaster_90 ?_
          refine x_if_le g 98 dX12_isFaster_91 (by decide) hf (fun c91 hf => ?_) (fun c91 hf => ?_)
          · refine x_iconst g 1 dX12_isFaster_94 (by decide) ?_
            refine x_goto g 99 dX12_isFaster_95 (by decide) ?_
            cases hf
            exact x_zret g rfl (by decide) ho dX12_isFaster_99
          · refine x_iconst g 0 dX12_isFaster_98 (by decide) ?_
            cases hf
            exact x_zret g rfl (by decide) ho dX12_isFaster_99
        · refine x_iload g 1 dX12_isFaster_86 rfl ?_
          refine x_i2l g dX12_isFaster_88 ?_
          refine x_lmul g dX12_isFaster_89 ?_
          refine x_lcmp g dX12_isFaster_90 ?_
          refine x_if_le g 98 dX12_isFaster_91 (by decide) hf (fun c91 hf => ?_) (fun c91 hf => ?_)
          · refine x_iconst g 1 dX12_isFaster_94 (by decide) ?_
            refine x_goto g 99 dX12_isFaster_95 (by decide) ?_
            cases hf
            exact x_zret g rfl (by decide) ho dX12_isFaster_99
          · refine x_iconst g 0 dX12_isFaster_98 (by decide) ?_
            cases hf
            exact x_zret g rfl (by decide) ho dX12_isFaster_99
      · refine x_lload g 2 dX12_isFaster_75 rfl ?_
        refine x_iload g 1 dX12_isFaster_77 rfl ?_
        refine x_if_ne g 86 dX12_isFaster_79 (by decide) hf (fun c79 hf => ?_) (fun c79 hf => ?_)
        · refine x_lconst g 1 dX12_isFaster_82 (by decide) ?_
          refine x_goto g 89 dX12_isFaster_83 (by decide) ?_
          refine x_lmul g dX12_isFaster_89 ?_
          refine x_lcmp g dX12_isFaster_90 ?_
          refine x_if_le g 98 dX12_isFaster_91 (by decide) hf (fun c91 hf => ?_) (fun c91 hf => ?_)
          · refine x_iconst g 1 dX12_isFaster_94 (by decide) ?_
            refine x_goto g 99 dX12_isFaster_95 (by decide) ?_
            cases hf
            exact x_zret g rfl (by decide) ho dX12_isFaster_99
          · refine x_iconst g 0 dX12_isFaster_98 (by decide) ?_
            cases hf
            exact x_zret g rfl (by decide) ho dX12_isFaster_99
        · refine x_iload g 1 dX12_isFaster_86 rfl ?_
          refine x_i2l g dX12_isFaster_88 ?_
          refine x_lmul g dX12_isFaster_89 ?_
          refine x_lcmp g dX12_isFaster_90 ?_
          refine x_if_le g 98 dX12_isFaster_91 (by decide) hf (fun c91 hf => ?_) (fun c91 hf => ?_)
          · refine x_iconst g 1 dX12_isFaster_94 (by decide) ?_
            refine x_goto g 99 dX12_isFaster_95 (by decide) ?_
            cases hf
            exact x_zret g rfl (by decide) ho dX12_isFaster_99
          · refine x_iconst g 0 dX12_isFaster_98 (by decide) ?_
            cases hf
            exact x_zret g rfl (by decide) ho dX12_isFaster_99
    · refine x_iload g 0 dX12_isFaster_62 rfl ?_
      refine x_i2l g dX12_isFaster_64 ?_
      refine x_lmul g dX12_isFaster_65 ?_
      refine x_iload g 0 dX12_isFaster_66 rfl ?_
      refine x_if_ne g 75 dX12_isFaster_68 (by decide) hf (fun c68 hf => ?_) (fun c68 hf => ?_)
      · refine x_lconst g 0 dX12_isFaster_71 (by decide) ?_
        refine x_goto g 77 dX12_isFaster_72 (by decide) ?_
        refine x_iload g 1 dX12_isFaster_77 rfl ?_
        refine x_if_ne g 86 dX12_isFaster_79 (by decide) hf (fun c79 hf => ?_) (fun c79 hf => ?_)
        · refine x_lconst g 1 dX12_isFaster_82 (by decide) ?_
          refine x_goto g 89 dX12_isFaster_83 (by decide) ?_
          refine x_lmul g dX12_isFaster_89 ?_
          refine x_lcmp g dX12_isFaster_90 ?_
          refine x_if_le g 98 dX12_isFaster_91 (by decide) hf (fun c91 hf => ?_) (fun c91 hf => ?_)
          · refine x_iconst g 1 dX12_isFaster_94 (by decide) ?_
            refine x_goto g 99 dX12_isFaster_95 (by decide) ?_
            cases hf
            exact x_zret g rfl (by decide) ho dX12_isFaster_99
          · refine x_iconst g 0 dX12_isFaster_98 (by decide) ?_
            cases hf
            exact x_zret g rfl (by decide) ho dX12_isFaster_99
        · refine x_iload g 1 dX12_isFaster_86 rfl ?_
          refine x_i2l g dX12_isFaster_88 ?_
          refine x_lmul g dX12_isFaster_89 ?_
          refine x_lcmp g dX12_isFaster_90 ?_
          refine x_if_le g 98 dX12_isFaster_91 (by decide) hf (fun c91 hf => ?_) (fun c91 hf => ?_)
          · refine x_iconst g 1 dX12_isFaster_94 (by decide) ?_
            refine x_goto g 99 dX12_isFaster_95 (by decide) ?_
            cases hf
            exact x_zret g rfl (by decide) ho dX12_isFaster_99
          · refine x_iconst g 0 dX12_isFaster_98 (by decide) ?_
            cases hf
            exact x_zret g rfl (by decide) ho dX12_isFaster_99
      · refine x_lload g 2 dX12_isFaster_75 rfl ?_
        refine x_iload g 1 dX12_isFaster_77 rfl ?_
        refine x_if_ne g 86 dX12_isFaster_79 (by decide) hf (fun c79 hf => ?_) (fun c79 hf => ?_)
        · refine x_lconst g 1 dX12_isFaster_82 (by decide) ?_
          refine x_goto g 89 dX12_isFaster_83 (by decide) ?_
          refine x_lmul g dX12_isFaster_89 ?_
          refine x_lcmp g dX12_isFaster_90 ?_
          refine x_if_le g 98 dX12_isFaster_91 (by decide) hf (fun c91 hf => ?_) (fun c91 hf => ?_)
          · refine x_iconst g 1 dX12_isFaster_94 (by decide) ?_
            refine x_goto g 99 dX12_isFaster_95 (by decide) ?_
            cases hf
            exact x_zret g rfl (by decide) ho dX12_isFaster_99
          · refine x_iconst g 0 dX12_isFaster_98 (by decide) ?_
            cases hf
            exact x_zret g rfl (by decide) ho dX12_isFaster_99
        · refine x_iload g 1 dX12_isFaster_86 rfl ?_
          refine x_i2l g dX12_isFaster_88 ?_
          refine x_lmul g dX12_isFaster_89 ?_
          refine x_lcmp g dX12_isFaster_90 ?_
          refine x_if_le g 98 dX12_isFaster_91 (by decide) hf (fun c91 hf => ?_) (fun c91 hf => ?_)
          · refine x_iconst g 1 dX12_isFaster_94 (by decide) ?_
            refine x_goto g 99 dX12_isFaster_95 (by decide) ?_
            cases hf
            exact x_zret g rfl (by decide) ho dX12_isFaster_99
          · refine x_iconst g 0 dX12_isFaster_98 (by decide) ?_
            cases hf
            exact x_zret g rfl (by decide) ho dX12_isFaster_99
  · refine x_lload_n g 3 dX12_isFaster_52 rfl rfl ?_
    refine x_iload g 0 dX12_isFaster_53 rfl ?_
    refine x_if_ne g 62 dX12_isFaster_55 (by decide) hf (fun c55 hf => ?_) (fun c55 hf => ?_)
    · refine x_lconst g 1 dX12_isFaster_58 (by decide) ?_
      refine x_goto g 65 dX12_isFaster_59 (by decide) ?_
      refine x_lmul g dX12_isFaster_65 ?_
      refine x_iload g 0 dX12_isFaster_66 rfl ?_
      refine x_if_ne g 75 dX12_isFaster_68 (by decide) hf (fun c68 hf => ?_) (fun c68 hf => ?_)
      · refine x_lconst g 0 dX12_isFaster_71 (by decide) ?_
        refine x_goto g 77 dX12_isFaster_72 (by decide) ?_
        refine x_iload g 1 dX12_isFaster_77 rfl ?_
        refine x_if_ne g 86 dX12_isFaster_79 (by decide) hf (fun c79 hf => ?_) (fun c79 hf => ?_)
        · refine x_lconst g 1 dX12_isFaster_82 (by decide) ?_
          refine x_goto g 89 dX12_isFaster_83 (by decide) ?_
          refine x_lmul g dX12_isFaster_89 ?_
          refine x_lcmp g dX12_isFaster_90 ?_
          refine x_if_le g 98 dX12_isFaster_91 (by decide) hf (fun c91 hf => ?_) (fun c91 hf => ?_)
          · refine x_iconst g 1 dX12_isFaster_94 (by decide) ?_
            refine x_goto g 99 dX12_isFaster_95 (by decide) ?_
            cases hf
            exact x_zret g rfl (by decide) ho dX12_isFaster_99
          · refine x_iconst g 0 dX12_isFaster_98 (by decide) ?_
            cases hf
            exact x_zret g rfl (by decide) ho dX12_isFaster_99
        · refine x_iload g 1 dX12_isFaster_86 rfl ?_
          refine x_i2l g dX12_isFaster_88 ?_
          refine x_lmul g dX12_isFaster_89 ?_
          refine x_lcmp g dX12_isFaster_90 ?_
          refine x_if_le g 98 dX12_isFaster_91 (by decide) hf (fun c91 hf => ?_) (fun c91 hf => ?_)
          · refine x_iconst g 1 dX12_isFaster_94 (by decide) ?_
            refine x_goto g 99 dX12_isFaster_95 (by decide) ?_
            cases hf
            exact x_zret g rfl (by decide) ho dX12_isFaster_99
          · refine x_iconst g 0 dX12_isFaster_98 (by decide) ?_
            cases hf
            exact x_zret g rfl (by decide) ho dX12_isFaster_99
      · refine x_lload g 2 dX12_isFaster_75 rfl ?_
        refine x_iload g 1 dX12_isFaster_77 rfl ?_
        refine x_if_ne g 86 dX12_isFaster_79 (by decide) hf (fun c79 hf => ?_) (fun c79 hf => ?_)
        · refine x_lconst g 1 dX12_isFaster_82 (by decide) ?_
          refine x_goto g 89 dX12_isFaster_83 (by decide) ?_
          refine x_lmul g dX12_isFaster_89 ?_
          refine x_lcmp g dX12_isFaster_90 ?_
          refine x_if_le g 98 dX12_isFaster_91 (by decide) hf (fun c91 hf => ?_) (fun c91 hf => ?_)
          · refine x_iconst g 1 dX12_isFaster_94 (by decide) ?_
            refine x_goto g 99 dX12_isFaster_95 (by decide) ?_
            cases hf
            exact x_zret g rfl (by decide) ho dX12_isFaster_99
          · refine x_iconst g 0 dX12_isFaster_98 (by decide) ?_
            cases hf
            exact x_zret g rfl (by decide) ho dX12_isFaster_99
        · refine x_iload g 1 dX12_isFaster_86 rfl ?_
          refine x_i2l g dX12_isFaster_88 ?_
          refine x_lmul g dX12_isFaster_89 ?_
          refine x_lcmp g dX12_isFaster_90 ?_
          refine x_if_le g 98 dX12_isFaster_91 (by decide) hf (fun c91 hf => ?_) (fun c91 hf => ?_)
          · refine x_iconst g 1 dX12_isFaster_94 (by decide) ?_
            refine x_goto g 99 dX12_isFaster_95 (by decide) ?_
            cases hf
            exact x_zret g rfl (by decide) ho dX12_isFaster_99
          · refine x_iconst g 0 dX12_isFaster_98 (by decide) ?_
            cases hf
            exact x_zret g rfl (by decide) ho dX12_isFaster_99
    · refine x_iload g 0 dX12_isFaster_62 rfl ?_
      refine x_i2l g dX12_isFaster_64 ?_
      refine x_lmul g dX12_isFaster_65 ?_
      refine x_iload g 0 dX12_isFaster_66 rfl ?_
      refine x_if_ne g 75 dX12_isFaster_68 (by decide) hf (fun c68 hf => ?_) (fun c68 hf => ?_)
      · refine x_lconst g 0 dX12_isFaster_71 (by decide) ?_
        refine x_goto g 77 dX12_isFaster_72 (by decide) ?_
        refine x_iload g 1 dX12_isFaster_77 rfl ?_
        refine x_if_ne g 86 dX12_isFaster_79 (by decide) hf (fun c79 hf => ?_) (fun c79 hf => ?_)
        · refine x_lconst g 1 dX12_isFaster_82 (by decide) ?_
          refine x_goto g 89 dX12_isFaster_83 (by decide) ?_
          refine x_lmul g dX12_isFaster_89 ?_
          refine x_lcmp g dX12_isFaster_90 ?_
          refine x_if_le g 98 dX12_isFaster_91 (by decide) hf (fun c91 hf => ?_) (fun c91 hf => ?_)
          · refine x_iconst g 1 dX12_isFaster_94 (by decide) ?_
            refine x_goto g 99 dX12_isFaster_95 (by decide) ?_
            cases hf
            exact x_zret g rfl (by decide) ho dX12_isFaster_99
          · refine x_iconst g 0 dX12_isFaster_98 (by decide) ?_
            cases hf
            exact x_zret g rfl (by decide) ho dX12_isFaster_99
        · refine x_iload g 1 dX12_isFaster_86 rfl ?_
          refine x_i2l g dX12_isFaster_88 ?_
          refine x_lmul g dX12_isFaster_89 ?_
          refine x_lcmp g dX12_isFaster_90 ?_
          refine x_if_le g 98 dX12_isFaster_91 (by decide) hf (fun c91 hf => ?_) (fun c91 hf => ?_)
          · refine x_iconst g 1 dX12_isFaster_94 (by decide) ?_
            refine x_goto g 99 dX12_isFaster_95 (by decide) ?_
            cases hf
            exact x_zret g rfl (by decide) ho dX12_isFaster_99
          · refine x_iconst g 0 dX12_isFaster_98 (by decide) ?_
            cases hf
            exact x_zret g rfl (by decide) ho dX12_isFaster_99
      · refine x_lload g 2 dX12_isFaster_75 rfl ?_
        refine x_iload g 1 dX12_isFaster_77 rfl ?_
        refine x_if_ne g 86 dX12_isFaster_79 (by decide) hf (fun c79 hf => ?_) (fun c79 hf => ?_)
        · refine x_lconst g 1 dX12_isFaster_82 (by decide) ?_
          refine x_goto g 89 dX12_isFaster_83 (by decide) ?_
          refine x_lmul g dX12_isFaster_89 ?_
          refine x_lcmp g dX12_isFaster_90 ?_
          refine x_if_le g 98 dX12_isFaster_91 (by decide) hf (fun c91 hf => ?_) (fun c91 hf => ?_)
          · refine x_iconst g 1 dX12_isFaster_94 (by decide) ?_
            refine x_goto g 99 dX12_isFaster_95 (by decide) ?_
            cases hf
            exact x_zret g rfl (by decide) ho dX12_isFaster_99
          · refine x_iconst g 0 dX12_isFaster_98 (by decide) ?_
            cases hf
            exact x_zret g rfl (by decide) ho dX12_isFaster_99
        · refine x_iload g 1 dX12_isFaster_86 rfl ?_
          refine x_i2l g dX12_isFaster_88 ?_
          refine x_lmul g dX12_isFaster_89 ?_
          refine x_lcmp g dX12_isFaster_90 ?_
          refine x_if_le g 98 dX12_isFaster_91 (by decide) hf (fun c91 hf => ?_) (fun c91 hf => ?_)
          · refine x_iconst g 1 dX12_isFaster_94 (by decide) ?_
            refine x_goto g 99 dX12_isFaster_95 (by decide) ?_
            cases hf
            exact x_zret g rfl (by decide) ho dX12_isFaster_99
          · refine x_iconst g 0 dX12_isFaster_98 (by decide) ?_
            cases hf
            exact x_zret g rfl (by decide) ho dX12_isFaster_99
/-! SlotChipModel.fastestNow()I -/
def f_X12_fastestNow_L4b (σ : St) (K4 : Int32 → Int32 → Option Int32) (v1 : Int32) (v2 : Int32) : Option Int32 :=
  if v2 < 8 then
    (chk (inb v2 8) (
      if (σ.1 9 0 (Int32.toNatClampNeg v2)) = 0 then
        K4 v1 (v2 + 1)
      else
        (if v1 = (-1) then
          K4 v2 (v2 + 1)
        else
          ((f_X12_isFaster σ v2 v1).bind fun r1 =>
          if r1 = 0 then
            K4 v1 (v2 + 1)
          else
            K4 v2 (v2 + 1)))))
  else
    some v1
def f_X12_fastestNow_L4 (σ : St) : Nat → Int32 → Int32 → Option Int32
  | 0 => fun _ _ => none
  | n + 1 => f_X12_fastestNow_L4b σ (f_X12_fastestNow_L4 σ n)
def f_X12_fastestNow (σ : St) : Option Int32 :=
  f_X12_fastestNow_L4 σ FU (-1) 0
set_option maxHeartbeats 4000000 in
set_option maxRecDepth 100000 in
theorem l_X12_fastestNow_L4 {E : EV} {l : Launch} {D : va_G} {cy : Nat → ClassId} {Ad : Nat → Nat} {out : St × Option Value} {o : Int32} (hA : AdOK 37 Ad) (xl : XL E l D (AdA 37 Ad)) (g : XG E (wM cy Ad) cy cX12_fastestNow RX12 4 1 (some .int) out) (σ : St) (ho : out = (σ, (some (.int o)))) : ∀ (n : Nat) (v1 : Int32) (v2 : Int32), f_X12_fastestNow_L4 σ n v1 v2 = some o → XJ E (wM cy Ad σ) 4 [(0, .ref (Ad 0)), (1, .int v1), (2, .int v2)] [] := by
  intro n
  induction n with
  | zero => intro _ _ hf; cases hf
  | succ n ih4 =>
    intro v1 v2 hf
    replace hf : f_X12_fastestNow_L4b σ (f_X12_fastestNow_L4 σ n) v1 v2 = some o := hf
    unfold f_X12_fastestNow_L4b at hf
    refine x_iload_n g 2 dX12_fastestNow_4 rfl rfl ?_
    refine x_bipush g 8 dX12_fastestNow_5 (by decide) ?_
    refine x_icmp_ge g 55 dX12_fastestNow_7 (by decide) hf (fun c7 hf => ?_) (fun c7 hf => ?_)
    · refine x_aload_n g 0 dX12_fastestNow_10 rfl rfl ?_
      refine x_get g fl_X12_20 wm_0 rfl dX12_fastestNow_11 ?_
      refine x_iload_n g 2 dX12_fastestNow_14 rfl rfl ?_
      refine x_zald g wm_4 dX12_fastestNow_15 hf (fun hf => ?_)
      refine x_if_eq g 37 dX12_fastestNow_16 (by decide) hf (fun c16 hf => ?_) (fun c16 hf => ?_)
      · refine x_iconst g 0 dX12_fastestNow_37 (by decide) ?_
        refine x_istore_n (lv' := [(3, .int 0), (0, .ref (Ad 0)), (1, .int v1), (2, .int v2)]) g dX12_fastestNow_38 rfl (by decide) rfl ?_
        refine x_iload_n g 0 dX12_fastestNow_39 rfl rfl ?_
        refine x_if_eq_t g 47 dX12_fastestNow_40 (by decide) (by decide) ?_
        refine x_iload_n g 2 dX12_fastestNow_47 rfl rfl ?_
        refine x_istore_n (lv' := [(1, .int v1), (3, .int 0), (0, .ref (Ad 0)), (2, .int v2)]) g dX12_fastestNow_48 rfl (by decide) rfl ?_
        refine x_iinc g 3 (v2 + 1) (lv' := [(2, .int (v2 + 1)), (1, .int v1), (3, .int 0), (0, .ref (Ad 0))]) dX12_fastestNow_49 rfl (by rfl) (by decide) rfl ?_
        refine x_goto g 4 dX12_fastestNow_52 (by decide) ?_
        exact x_sub [3, 1, 0] rfl (ih4 _ _ hf)
      · refine x_iload_n g 1 dX12_fastestNow_19 rfl rfl ?_
        refine x_iconst g (-1) dX12_fastestNow_20 (by decide) ?_
        refine x_icmp_eq g 33 dX12_fastestNow_21 (by decide) hf (fun c21 hf => ?_) (fun c21 hf => ?_)
        · refine x_iconst g 1 dX12_fastestNow_33 (by decide) ?_
          refine x_goto g 38 dX12_fastestNow_34 (by decide) ?_
          refine x_istore_n (lv' := [(3, .int 1), (0, .ref (Ad 0)), (1, .int v1), (2, .int v2)]) g dX12_fastestNow_38 rfl (by decide) rfl ?_
          refine x_iload_n g 0 dX12_fastestNow_39 rfl rfl ?_
          refine x_if_eq_f g 47 dX12_fastestNow_40 (by decide) (by decide) ?_
          refine x_iload_n g 3 dX12_fastestNow_43 rfl rfl ?_
          refine x_goto g 48 dX12_fastestNow_44 (by decide) ?_
          refine x_istore_n (lv' := [(1, .int v2), (3, .int 1), (0, .ref (Ad 0)), (2, .int v2)]) g dX12_fastestNow_48 rfl (by decide) rfl ?_
          refine x_iinc g 3 (v2 + 1) (lv' := [(2, .int (v2 + 1)), (1, .int v2), (3, .int 1), (0, .ref (Ad 0))]) dX12_fastestNow_49 rfl (by rfl) (by decide) rfl ?_
          refine x_goto g 4 dX12_fastestNow_52 (by decide) ?_
          exact x_sub [3, 1, 0] rfl (ih4 _ _ hf)
        · refine x_aload_n g 0 dX12_fastestNow_24 rfl rfl ?_
          refine x_iload_n g 2 dX12_fastestNow_25 rfl rfl ?_
          refine x_iload_n g 1 dX12_fastestNow_26 rfl rfl ?_
          obtain ⟨r1, hgr1, hf⟩ := obind hf
          refine x_callV (r := (RX12, TX12, 53)) g xl [.int v2, .int v1] [] [.int r1] (c_X12_isFaster hA hgr1) mf_X12_isFaster im_X12_isFaster se_X12_isFaster ml_X12_306 rfl wm_0 (by decide) (by decide) rfl (Nat.le_of_ble_eq_true rfl) dX12_fastestNow_27 rfl rfl ?_
          refine x_if_eq g 37 dX12_fastestNow_30 (by decide) hf (fun c30 hf => ?_) (fun c30 hf => ?_)
          · refine x_iconst g 0 dX12_fastestNow_37 (by decide) ?_
            refine x_istore_n (lv' := [(3, .int 0), (0, .ref (Ad 0)), (1, .int v1), (2, .int v2)]) g dX12_fastestNow_38 rfl (by decide) rfl ?_
            refine x_iload_n g 0 dX12_fastestNow_39 rfl rfl ?_
            refine x_if_eq_t g 47 dX12_fastestNow_40 (by decide) (by decide) ?_
            refine x_iload_n g 2 dX12_fastestNow_47 rfl rfl ?_
            refine x_istore_n (lv' := [(1, .int v1), (3, .int 0), (0, .ref (Ad 0)), (2, .int v2)]) g dX12_fastestNow_48 rfl (by decide) rfl ?_
            refine x_iinc g 3 (v2 + 1) (lv' := [(2, .int (v2 + 1)), (1, .int v1), (3, .int 0), (0, .ref (Ad 0))]) dX12_fastestNow_49 rfl (by rfl) (by decide) rfl ?_
            refine x_goto g 4 dX12_fastestNow_52 (by decide) ?_
            exact x_sub [3, 1, 0] rfl (ih4 _ _ hf)
          · refine x_iconst g 1 dX12_fastestNow_33 (by decide) ?_
            refine x_goto g 38 dX12_fastestNow_34 (by decide) ?_
            refine x_istore_n (lv' := [(3, .int 1), (0, .ref (Ad 0)), (1, .int v1), (2, .int v2)]) g dX12_fastestNow_38 rfl (by decide) rfl ?_
            refine x_iload_n g 0 dX12_fastestNow_39 rfl rfl ?_
            refine x_if_eq_f g 47 dX12_fastestNow_40 (by decide) (by decide) ?_
            refine x_iload_n g 3 dX12_fastestNow_43 rfl rfl ?_
            refine x_goto g 48 dX12_fastestNow_44 (by decide) ?_
            refine x_istore_n (lv' := [(1, .int v2), (3, .int 1), (0, .ref (Ad 0)), (2, .int v2)]) g dX12_fastestNow_48 rfl (by decide) rfl ?_
            refine x_iinc g 3 (v2 + 1) (lv' := [(2, .int (v2 + 1)), (1, .int v2), (3, .int 1), (0, .ref (Ad 0))]) dX12_fastestNow_49 rfl (by rfl) (by decide) rfl ?_
            refine x_goto g 4 dX12_fastestNow_52 (by decide) ?_
            exact x_sub [3, 1, 0] rfl (ih4 _ _ hf)
    · refine x_iload_n g 1 dX12_fastestNow_55 rfl rfl ?_
      cases hf
      exact x_iret g rfl ho dX12_fastestNow_56
set_option maxHeartbeats 4000000 in
set_option maxRecDepth 100000 in
theorem c_X12_fastestNow {l : Launch} {D : va_G} {cy : Nat → ClassId} {Ad : Nat → Nat} (hA : AdOK 37 Ad) {σ : St} {o : Int32} (hf : f_X12_fastestNow σ = some o) : CT l (wM cy Ad) D cy (AdA 37 Ad) yX12_fastestNow cX12_fastestNow 4 (some .int) 1 [.ref (Ad 0)] σ (σ, (some (.int o))) := by
  refine CT.of mf_X12_fastestNow (wM_D hA) (Nat.le_of_ble_eq_true rfl) ?_
  intro E xl g
  have ho : ((σ, (some (.int o))) : St × Option Value) = (σ, (some (.int o))) := rfl
  unfold f_X12_fastestNow at hf
  show XJ E (wM cy Ad σ) 0 [(0, .ref (Ad 0))] []
  refine x_iconst g (-1) dX12_fastestNow_0 (by decide) ?_
  refine x_istore_n (lv' := [(1, .int (-1)), (0, .ref (Ad 0))]) g dX12_fastestNow_1 rfl (by decide) rfl ?_
  refine x_iconst g 0 dX12_fastestNow_2 (by decide) ?_
  refine x_istore_n (lv' := [(2, .int 0), (1, .int (-1)), (0, .ref (Ad 0))]) g dX12_fastestNow_3 rfl (by decide) rfl ?_
  exact x_sub [2, 1, 0] rfl (l_X12_fastestNow_L4 hA xl g _ ho FU _ _ hf)
/-! SlotChipModel.fastest()I -/
def f_X12_fastest (σ : St) : Option Int32 :=
  (f_X12_fastestNow σ).bind fun r1 =>
  some r1
set_option maxHeartbeats 4000000 in
set_option maxRecDepth 100000 in
theorem c_X12_fastest {l : Launch} {D : va_G} {cy : Nat → ClassId} {Ad : Nat → Nat} (hA : AdOK 37 Ad) {σ : St} {o : Int32} (hf : f_X12_fastest σ = some o) : CT l (wM cy Ad) D cy (AdA 37 Ad) yX12_fastest cX12_fastest 1 (some .int) 2 [.ref (Ad 0)] σ (σ, (some (.int o))) := by
  refine CT.of mf_X12_fastest (wM_D hA) (Nat.le_of_ble_eq_true rfl) ?_
  intro E xl g
  have ho : ((σ, (some (.int o))) : St × Option Value) = (σ, (some (.int o))) := rfl
  unfold f_X12_fastest at hf
  show XJ E (wM cy Ad σ) 0 [(0, .ref (Ad 0))] []
  refine x_aload_n g 0 dX12_fastest_0 rfl rfl ?_
  obtain ⟨r1, hgr1, hf⟩ := obind hf
  refine x_callV (r := (RX12, TX12, 53)) g xl [] [] [.int r1] (c_X12_fastestNow hA hgr1) mf_X12_fastestNow im_X12_fastestNow se_X12_fastestNow ml_X12_309 rfl wm_0 (by decide) (by decide) rfl (Nat.le_of_ble_eq_true rfl) dX12_fastest_1 rfl rfl ?_
  cases hf
  exact x_iret g rfl ho dX12_fastest_4
/-! SlotChipModel.comes(IIZ)V -/
def f_X12_comes (σ : St) (p1 : Int32) (p2 : Int32) (p3 : Int32) : Option St :=
  chk (inb (σ.1 0 0 30) 12) (
    bnd (si σ 31 0 (Int32.toNatClampNeg (σ.1 0 0 30)) p1) fun σ1 =>
    chk (inb (σ1.1 0 0 30) 12) (
      bnd (si σ1 32 0 (Int32.toNatClampNeg (σ1.1 0 0 30)) p2) fun σ2 =>
      chk (inb (σ2.1 0 0 30) 12) (
        bnd (si σ2 33 0 (Int32.toNatClampNeg (σ2.1 0 0 30)) (p3 &&& 1)) fun σ3 =>
        chk (inb (σ3.1 0 0 30) 12) (
          bnd (si σ3 34 0 (Int32.toNatClampNeg (σ3.1 0 0 30)) (-1)) fun σ4 =>
          chk (inb (σ4.1 0 0 30) 12) (
            bnd (si σ4 35 0 (Int32.toNatClampNeg (σ4.1 0 0 30)) (σ4.1 0 0 3)) fun σ5 =>
            bnd (si σ5 0 0 30 ((σ5.1 0 0 30) + 1)) fun σ6 =>
            some σ6)))))
set_option maxHeartbeats 4000000 in
set_option maxRecDepth 100000 in
theorem c_X12_comes {l : Launch} {D : va_G} {cy : Nat → ClassId} {Ad : Nat → Nat} (hA : AdOK 37 Ad) {σ : St} {p1 : Int32} {p2 : Int32} {p3 : Int32} {o : St} (hf : f_X12_comes σ p1 p2 p3 = some o) : CT l (wM cy Ad) D cy (AdA 37 Ad) yX12_comes cX12_comes 4 none 0 [.ref (Ad 0), .int p1, .int p2, .int p3] σ (o, none) := by
  refine CT.of mf_X12_comes (wM_D hA) (Nat.le_of_ble_eq_true rfl) ?_
  intro E xl g
  have ho : ((o, none) : St × Option Value) = (o, none) := rfl
  unfold f_X12_comes at hf
  show XJ E (wM cy Ad σ) 0 [(0, .ref (Ad 0)), (1, .int p1), (2, .int p2), (3, .int p3)] []
  refine x_aload_n g 0 dX12_comes_0 rfl rfl ?_
  refine x_get g fl_X12_80 wm_0 rfl dX12_comes_1 ?_
  refine x_aload_n g 0 dX12_comes_4 rfl rfl ?_
  refine x_get g fl_X12_194 wm_0 rfl dX12_comes_5 ?_
  refine x_iload_n g 1 dX12_comes_8 rfl rfl ?_
  refine x_iastB g wm_24 (sm_24 _ _) dX12_comes_9 hf (fun σ1 hf => ?_)
  refine x_aload_n g 0 dX12_comes_10 rfl rfl ?_
  refine x_get g fl_X12_83 wm_0 rfl dX12_comes_11 ?_
  refine x_aload_n g 0 dX12_comes_14 rfl rfl ?_
  refine x_get g fl_X12_194 wm_0 rfl dX12_comes_15 ?_
  refine x_iload_n g 2 dX12_comes_18 rfl rfl ?_
  refine x_iastB g wm_25 (sm_25 _ _) dX12_comes_19 hf (fun σ2 hf => ?_)
  refine x_aload_n g 0 dX12_comes_20 rfl rfl ?_
  refine x_get g fl_X12_86 wm_0 rfl dX12_comes_21 ?_
  refine x_aload_n g 0 dX12_comes_24 rfl rfl ?_
  refine x_get g fl_X12_194 wm_0 rfl dX12_comes_25 ?_
  refine x_iload_n g 3 dX12_comes_28 rfl rfl ?_
  refine x_zastB g (p3 &&& 1) rfl wm_26 (sm_26 _ _) dX12_comes_29 hf (fun σ3 hf => ?_)
  refine x_aload_n g 0 dX12_comes_30 rfl rfl ?_
  refine x_get g fl_X12_89 wm_0 rfl dX12_comes_31 ?_
  refine x_aload_n g 0 dX12_comes_34 rfl rfl ?_
  refine x_get g fl_X12_194 wm_0 rfl dX12_comes_35 ?_
  refine x_iconst g (-1) dX12_comes_38 (by decide) ?_
  refine x_iastB g wm_27 (sm_27 _ _) dX12_comes_39 hf (fun σ4 hf => ?_)
  refine x_aload_n g 0 dX12_comes_40 rfl rfl ?_
  refine x_get g fl_X12_92 wm_0 rfl dX12_comes_41 ?_
  refine x_aload_n g 0 dX12_comes_44 rfl rfl ?_
  refine x_get g fl_X12_194 wm_0 rfl dX12_comes_45 ?_
  refine x_aload_n g 0 dX12_comes_48 rfl rfl ?_
  refine x_get g fl_X12_188 wm_0 rfl dX12_comes_49 ?_
  refine x_iastB g wm_28 (sm_28 _ _) dX12_comes_52 hf (fun σ5 hf => ?_)
  refine x_aload_n g 0 dX12_comes_53 rfl rfl ?_
  refine x_dup g dX12_comes_54 rfl ?_
  refine x_get g fl_X12_194 wm_0 rfl dX12_comes_55 ?_
  refine x_iconst g 1 dX12_comes_58 (by decide) ?_
  refine x_iadd g dX12_comes_59 ?_
  refine x_putB g tyX12 fl_X12_194 tyX12_ok nmX12 wm_0 rfl rfl rfl (Nat.le_of_ble_eq_true rfl) (sm_0_30 _) dX12_comes_60 hf (fun σ6 hf => ?_)
  cases hf
  exact x_vret g rfl ho dX12_comes_63
/-! SlotChipModel.stray(IIZ)I -/
def f_X12_stray (σ : St) (p1 : Int32) (p2 : Int32) (p3 : Int32) : Option (St × Int32) :=
  (f_X12_isChip σ).bind fun r1 =>
  if r1 = 0 then
    some (σ, (-103))
  else
    ((f_X12_isRouter σ p1).bind fun r2 =>
    if r2 = 0 then
      some (σ, (-101))
    else
      ((f_X12_isRouter σ p2).bind fun r3 =>
      if r3 = 0 then
        some (σ, (-101))
      else
        (if (σ.1 0 0 30) = 12 then
          some (σ, (-104))
        else
          ((f_X12_comes σ p1 p2 p3).bind fun σ5 =>
          some (σ5, (σ5.1 0 0 30))))))
set_option maxHeartbeats 4000000 in
set_option maxRecDepth 100000 in
theorem c_X12_stray {l : Launch} {D : va_G} {cy : Nat → ClassId} {Ad : Nat → Nat} (hA : AdOK 37 Ad) {σ : St} {p1 : Int32} {p2 : Int32} {p3 : Int32} {o : (St × Int32)} (hf : f_X12_stray σ p1 p2 p3 = some o) : CT l (wM cy Ad) D cy (AdA 37 Ad) yX12_stray cX12_stray 4 (some .int) 2 [.ref (Ad 0), .int p1, .int p2, .int p3] σ (o.1, (some (.int o.2))) := by
  refine CT.of mf_X12_stray (wM_D hA) (Nat.le_of_ble_eq_true rfl) ?_
  intro E xl g
  have ho : ((o.1, (some (.int o.2))) : St × Option Value) = (o.1, (some (.int o.2))) := rfl
  unfold f_X12_stray at hf
  show XJ E (wM cy Ad σ) 0 [(0, .ref (Ad 0)), (1, .int p1), (2, .int p2), (3, .int p3)] []
  refine x_aload_n g 0 dX12_stray_0 rfl rfl ?_
  obtain ⟨r1, hgr1, hf⟩ := obind hf
  refine x_callV (r := (RX12, TX12, 53)) g xl [] [] [.int r1] (c_X12_isChip hA hgr1) mf_X12_isChip im_X12_isChip se_X12_isChip ml_X12_264 rfl wm_0 (by decide) (by decide) rfl (Nat.le_of_ble_eq_true rfl) dX12_stray_1 rfl rfl ?_
  refine x_if_ne g 10 dX12_stray_4 (by decide) hf (fun c4 hf => ?_) (fun c4 hf => ?_)
  · refine x_bipush g (-103) dX12_stray_7 (by decide) ?_
    cases hf
    exact x_iret g rfl ho dX12_stray_9
  · refine x_aload_n g 0 dX12_stray_10 rfl rfl ?_
    refine x_iload_n g 1 dX12_stray_11 rfl rfl ?_
    obtain ⟨r2, hgr2, hf⟩ := obind hf
    refine x_callV (r := (RX12, TX12, 53)) g xl [.int p1] [] [.int r2] (c_X12_isRouter hA hgr2) mf_X12_isRouter im_X12_isRouter se_X12_isRouter ml_X12_273 rfl wm_0 (by decide) (by decide) rfl (Nat.le_of_ble_eq_true rfl) dX12_stray_12 rfl rfl ?_
    refine x_if_eq g 26 dX12_stray_15 (by decide) hf (fun c15 hf => ?_) (fun c15 hf => ?_)
    · refine x_bipush g (-101) dX12_stray_26 (by decide) ?_
      cases hf
      exact x_iret g rfl ho dX12_stray_28
    · refine x_aload_n g 0 dX12_stray_18 rfl rfl ?_
      refine x_iload_n g 2 dX12_stray_19 rfl rfl ?_
      obtain ⟨r3, hgr3, hf⟩ := obind hf
      refine x_callV (r := (RX12, TX12, 53)) g xl [.int p2] [] [.int r3] (c_X12_isRouter hA hgr3) mf_X12_isRouter im_X12_isRouter se_X12_isRouter ml_X12_273 rfl wm_0 (by decide) (by decide) rfl (Nat.le_of_ble_eq_true rfl) dX12_stray_20 rfl rfl ?_
      refine x_if_ne g 29 dX12_stray_23 (by decide) hf (fun c23 hf => ?_) (fun c23 hf => ?_)
      · refine x_bipush g (-101) dX12_stray_26 (by decide) ?_
        cases hf
        exact x_iret g rfl ho dX12_stray_28
      · refine x_aload_n g 0 dX12_stray_29 rfl rfl ?_
        refine x_get g fl_X12_194 wm_0 rfl dX12_stray_30 ?_
        refine x_bipush g 12 dX12_stray_33 (by decide) ?_
        refine x_icmp_ne g 41 dX12_stray_35 (by decide) hf (fun c35 hf => ?_) (fun c35 hf => ?_)
        · refine x_bipush g (-104) dX12_stray_38 (by decide) ?_
          cases hf
          exact x_iret g rfl ho dX12_stray_40
        · refine x_aload_n g 0 dX12_stray_41 rfl rfl ?_
          refine x_iload_n g 1 dX12_stray_42 rfl rfl ?_
          refine x_iload_n g 2 dX12_stray_43 rfl rfl ?_
          refine x_iload_n g 3 dX12_stray_44 rfl rfl ?_
          obtain ⟨σ5, hgr4, hf⟩ := obind hf
          refine x_callV (r := (RX12, TX12, 53)) g xl [.int p1, .int p2, .int p3] [] [] (c_X12_comes hA hgr4) mf_X12_comes im_X12_comes se_X12_comes ml_X12_312 rfl wm_0 (by decide) (by decide) rfl (Nat.le_of_ble_eq_true rfl) dX12_stray_45 rfl rfl ?_
          refine x_aload_n g 0 dX12_stray_48 rfl rfl ?_
          refine x_get g fl_X12_194 wm_0 rfl dX12_stray_49 ?_
          cases hf
          exact x_iret g rfl ho dX12_stray_52
/-! SlotChipModel.nextLink(I)I -/
def f_X12_nextLink (σ : St) (p1 : Int32) : Option Int32 :=
  chk (inb p1 12) (
    bnd (σ.1 34 0 (Int32.toNatClampNeg p1)) fun y1 =>
    chk (inb p1 12) (
      bnd (σ.1 32 0 (Int32.toNatClampNeg p1)) fun y2 =>
      if y1 = (-1) then
        (chk (inb p1 12) (
          some (6 * (σ.1 31 0 (Int32.toNatClampNeg p1)))))
      else
        (if y1 = y2 then
          some ((6 * y1) + 1)
        else
          (chk (¬ (σ.1 0 0 0) = 0) (
            chk (¬ (σ.1 0 0 0) = 0) (
              if (remI y1 (σ.1 0 0 0)) = (remI y2 (σ.1 0 0 0)) then
                (if y1 < y2 then
                  some ((6 * y1) + 4)
                else
                  some ((6 * y1) + 2))
              else
                (chk (¬ (σ.1 0 0 0) = 0) (
                  chk (¬ (σ.1 0 0 0) = 0) (
                    if (remI y1 (σ.1 0 0 0)) < (remI y2 (σ.1 0 0 0)) then
                      some ((6 * y1) + 3)
                    else
                      some ((6 * y1) + 5))))))))))
set_option maxHeartbeats 4000000 in
set_option maxRecDepth 100000 in
theorem c_X12_nextLink {l : Launch} {D : va_G} {cy : Nat → ClassId} {Ad : Nat → Nat} (hA : AdOK 37 Ad) {σ : St} {p1 : Int32} {o : Int32} (hf : f_X12_nextLink σ p1 = some o) : CT l (wM cy Ad) D cy (AdA 37 Ad) yX12_nextLink cX12_nextLink 4 (some .int) 0 [.ref (Ad 0), .int p1] σ (σ, (some (.int o))) := by
  refine CT.of mf_X12_nextLink (wM_D hA) (Nat.le_of_ble_eq_true rfl) ?_
  intro E xl g
  have ho : ((σ, (some (.int o))) : St × Option Value) = (σ, (some (.int o))) := rfl
  unfold f_X12_nextLink at hf
  show XJ E (wM cy Ad σ) 0 [(0, .ref (Ad 0)), (1, .int p1)] []
  refine x_aload_n g 0 dX12_nextLink_0 rfl rfl ?_
  refine x_get g fl_X12_89 wm_0 rfl dX12_nextLink_1 ?_
  refine x_iload_n g 1 dX12_nextLink_4 rfl rfl ?_
  refine x_iald g wm_27 dX12_nextLink_5 hf (fun hf => ?_)
  refine x_nami hf (fun y1 hf => ?_)
  refine x_istore_n (lv' := [(2, .int y1), (0, .ref (Ad 0)), (1, .int p1)]) g dX12_nextLink_6 rfl (by decide) rfl ?_
  refine x_aload_n g 1 dX12_nextLink_7 rfl rfl ?_
  refine x_get g fl_X12_83 wm_0 rfl dX12_nextLink_8 ?_
  refine x_iload_n g 2 dX12_nextLink_11 rfl rfl ?_
  refine x_iald g wm_25 dX12_nextLink_12 hf (fun hf => ?_)
  refine x_nami hf (fun y2 hf => ?_)
  refine x_istore_n (lv' := [(3, .int y2), (2, .int y1), (0, .ref (Ad 0)), (1, .int p1)]) g dX12_nextLink_13 rfl (by decide) rfl ?_
  refine x_iload_n g 1 dX12_nextLink_14 rfl rfl ?_
  refine x_iconst g (-1) dX12_nextLink_15 (by decide) ?_
  refine x_icmp_ne g 29 dX12_nextLink_16 (by decide) hf (fun c16 hf => ?_) (fun c16 hf => ?_)
  · refine x_bipush g 6 dX12_nextLink_19 (by decide) ?_
    refine x_aload_n g 2 dX12_nextLink_21 rfl rfl ?_
    refine x_get g fl_X12_80 wm_0 rfl dX12_nextLink_22 ?_
    refine x_iload_n g 3 dX12_nextLink_25 rfl rfl ?_
    refine x_iald g wm_24 dX12_nextLink_26 hf (fun hf => ?_)
    refine x_imul g dX12_nextLink_27 ?_
    cases hf
    exact x_iret g rfl ho dX12_nextLink_28
  · refine x_iload_n g 1 dX12_nextLink_29 rfl rfl ?_
    refine x_iload_n g 0 dX12_nextLink_30 rfl rfl ?_
    refine x_icmp_ne g 41 dX12_nextLink_31 (by decide) hf (fun c31 hf => ?_) (fun c31 hf => ?_)
    · refine x_bipush g 6 dX12_nextLink_34 (by decide) ?_
      refine x_iload_n g 1 dX12_nextLink_36 rfl rfl ?_
      refine x_imul g dX12_nextLink_37 ?_
      refine x_iconst g 1 dX12_nextLink_38 (by decide) ?_
      refine x_iadd g dX12_nextLink_39 ?_
      cases hf
      exact x_iret g rfl ho dX12_nextLink_40
    · refine x_iload_n g 1 dX12_nextLink_41 rfl rfl ?_
      refine x_aload_n g 2 dX12_nextLink_42 rfl rfl ?_
      refine x_get g fl_X12_119 wm_0 rfl dX12_nextLink_43 ?_
      have hz := (chk_some hf).1
      replace hf := (chk_some hf).2
      refine x_irem g dX12_nextLink_46 hz ?_
      refine x_iload_n g 0 dX12_nextLink_47 rfl rfl ?_
      refine x_aload_n g 2 dX12_nextLink_48 rfl rfl ?_
      refine x_get g fl_X12_119 wm_0 rfl dX12_nextLink_49 ?_
      have hz := (chk_some hf).1
      replace hf := (chk_some hf).2
      refine x_irem g dX12_nextLink_52 hz ?_
      refine x_icmp_eq g 82 dX12_nextLink_53 (by decide) hf (fun c53 hf => ?_) (fun c53 hf => ?_)
      · refine x_bipush g 6 dX12_nextLink_82 (by decide) ?_
        refine x_iload_n g 1 dX12_nextLink_84 rfl rfl ?_
        refine x_imul g dX12_nextLink_85 ?_
        refine x_iload_n g 1 dX12_nextLink_86 rfl rfl ?_
        refine x_iload_n g 0 dX12_nextLink_87 rfl rfl ?_
        refine x_icmp_ge g 95 dX12_nextLink_88 (by decide) hf (fun c88 hf => ?_) (fun c88 hf => ?_)
        · refine x_iconst g 4 dX12_nextLink_91 (by decide) ?_
          refine x_goto g 96 dX12_nextLink_92 (by decide) ?_
          refine x_iadd g dX12_nextLink_96 ?_
          cases hf
          exact x_iret g rfl ho dX12_nextLink_97
        · refine x_iconst g 2 dX12_nextLink_95 (by decide) ?_
          refine x_iadd g dX12_nextLink_96 ?_
          cases hf
          exact x_iret g rfl ho dX12_nextLink_97
      · refine x_bipush g 6 dX12_nextLink_56 (by decide) ?_
        refine x_iload_n g 1 dX12_nextLink_58 rfl rfl ?_
        refine x_imul g dX12_nextLink_59 ?_
        refine x_iload_n g 1 dX12_nextLink_60 rfl rfl ?_
        refine x_aload_n g 2 dX12_nextLink_61 rfl rfl ?_
        refine x_get g fl_X12_119 wm_0 rfl dX12_nextLink_62 ?_
        have hz := (chk_some hf).1
        replace hf := (chk_some hf).2
        refine x_irem g dX12_nextLink_65 hz ?_
        refine x_iload_n g 0 dX12_nextLink_66 rfl rfl ?_
        refine x_aload_n g 2 dX12_nextLink_67 rfl rfl ?_
        refine x_get g fl_X12_119 wm_0 rfl dX12_nextLink_68 ?_
        have hz := (chk_some hf).1
        replace hf := (chk_some hf).2
        refine x_irem g dX12_nextLink_71 hz ?_
        refine x_icmp_ge g 79 dX12_nextLink_72 (by decide) hf (fun c72 hf => ?_) (fun c72 hf => ?_)
        · refine x_iconst g 3 dX12_nextLink_75 (by decide) ?_
          refine x_goto g 80 dX12_nextLink_76 (by decide) ?_
          refine x_iadd g dX12_nextLink_80 ?_
          cases hf
          exact x_iret g rfl ho dX12_nextLink_81
        · refine x_iconst g 5 dX12_nextLink_79 (by decide) ?_
          refine x_iadd g dX12_nextLink_80 ?_
          cases hf
          exact x_iret g rfl ho dX12_nextLink_81
/-! SlotChipModel.strayNow(II)I -/
def f_X12_strayNow (σ : St) (p1 : Int32) (p2 : Int32) : Option Int32 :=
  if p2 = 0 then
    (chk (inb p1 12) (
      some (σ.1 32 0 (Int32.toNatClampNeg p1))))
  else
    (if p2 = 1 then
      (chk (inb p1 12) (
        if (σ.1 33 0 (Int32.toNatClampNeg p1)) = 0 then
          some 0
        else
          some 1))
    else
      (if p2 = 2 then
        (chk (inb p1 12) (
          some (σ.1 34 0 (Int32.toNatClampNeg p1))))
      else
        (if p2 = 3 then
          (chk (inb p1 12) (
            some ((σ.1 0 0 3) - (σ.1 35 0 (Int32.toNatClampNeg p1)))))
        else
          ((f_X12_nextLink σ p1).bind fun r1 =>
          some r1))))
set_option maxHeartbeats 4000000 in
set_option maxRecDepth 100000 in
theorem c_X12_strayNow {l : Launch} {D : va_G} {cy : Nat → ClassId} {Ad : Nat → Nat} (hA : AdOK 37 Ad) {σ : St} {p1 : Int32} {p2 : Int32} {o : Int32} (hf : f_X12_strayNow σ p1 p2 = some o) : CT l (wM cy Ad) D cy (AdA 37 Ad) yX12_strayNow cX12_strayNow 3 (some .int) 1 [.ref (Ad 0), .int p1, .int p2] σ (σ, (some (.int o))) := by
  refine CT.of mf_X12_strayNow (wM_D hA) (Nat.le_of_ble_eq_true rfl) ?_
  intro E xl g
  have ho : ((σ, (some (.int o))) : St × Option Value) = (σ, (some (.int o))) := rfl
  unfold f_X12_strayNow at hf
  show XJ E (wM cy Ad σ) 0 [(0, .ref (Ad 0)), (1, .int p1), (2, .int p2)] []
  refine x_iload_n g 2 dX12_strayNow_0 rfl rfl ?_
  refine sp hf (fun n_1_0 hf => ?_) (fun n_1_0 hf => ?_)
  · refine x_tin g 0 31 32 dX12_strayNow_1 n_1_0 (by decide) ?_
    refine x_aload_n g 0 dX12_strayNow_32 rfl rfl ?_
    refine x_get g fl_X12_83 wm_0 rfl dX12_strayNow_33 ?_
    refine x_iload_n g 1 dX12_strayNow_36 rfl rfl ?_
    refine x_iald g wm_25 dX12_strayNow_37 hf (fun hf => ?_)
    cases hf
    exact x_iret g rfl ho dX12_strayNow_38
  · refine sp hf (fun n_1_1 hf => ?_) (fun n_1_1 hf => ?_)
    · refine x_tin g 1 38 39 dX12_strayNow_1 n_1_1 (by decide) ?_
      refine x_aload_n g 0 dX12_strayNow_39 rfl rfl ?_
      refine x_get g fl_X12_86 wm_0 rfl dX12_strayNow_40 ?_
      refine x_iload_n g 1 dX12_strayNow_43 rfl rfl ?_
      refine x_zald g wm_26 dX12_strayNow_44 hf (fun hf => ?_)
      refine x_if_eq g 52 dX12_strayNow_45 (by decide) hf (fun c45 hf => ?_) (fun c45 hf => ?_)
      · refine x_iconst g 0 dX12_strayNow_52 (by decide) ?_
        cases hf
        exact x_iret g rfl ho dX12_strayNow_53
      · refine x_iconst g 1 dX12_strayNow_48 (by decide) ?_
        refine x_goto g 53 dX12_strayNow_49 (by decide) ?_
        cases hf
        exact x_iret g rfl ho dX12_strayNow_53
    · refine sp hf (fun n_1_2 hf => ?_) (fun n_1_2 hf => ?_)
      · refine x_tin g 2 53 54 dX12_strayNow_1 n_1_2 (by decide) ?_
        refine x_aload_n g 0 dX12_strayNow_54 rfl rfl ?_
        refine x_get g fl_X12_89 wm_0 rfl dX12_strayNow_55 ?_
        refine x_iload_n g 1 dX12_strayNow_58 rfl rfl ?_
        refine x_iald g wm_27 dX12_strayNow_59 hf (fun hf => ?_)
        cases hf
        exact x_iret g rfl ho dX12_strayNow_60
      · refine sp hf (fun n_1_3 hf => ?_) (fun n_1_3 hf => ?_)
        · refine x_tin g 3 60 61 dX12_strayNow_1 n_1_3 (by decide) ?_
          refine x_aload_n g 0 dX12_strayNow_61 rfl rfl ?_
          refine x_get g fl_X12_188 wm_0 rfl dX12_strayNow_62 ?_
          refine x_aload_n g 0 dX12_strayNow_65 rfl rfl ?_
          refine x_get g fl_X12_92 wm_0 rfl dX12_strayNow_66 ?_
          refine x_iload_n g 1 dX12_strayNow_69 rfl rfl ?_
          refine x_iald g wm_28 dX12_strayNow_70 hf (fun hf => ?_)
          refine x_isub g dX12_strayNow_71 ?_
          cases hf
          exact x_iret g rfl ho dX12_strayNow_72
        · refine x_tout g 73 dX12_strayNow_1 (by have e0 := tI n_1_0 (by decide : (0 : Int32).toInt = 0); have e1 := tI n_1_1 (by decide : (1 : Int32).toInt = 1); have e2 := tI n_1_2 (by decide : (2 : Int32).toInt = 2); have e3 := tI n_1_3 (by decide : (3 : Int32).toInt = 3); omega) (by decide) ?_
          refine x_aload_n g 0 dX12_strayNow_73 rfl rfl ?_
          refine x_iload_n g 1 dX12_strayNow_74 rfl rfl ?_
          obtain ⟨r1, hgr1, hf⟩ := obind hf
          refine x_callV (r := (RX12, TX12, 53)) g xl [.int p1] [] [.int r1] (c_X12_nextLink hA hgr1) mf_X12_nextLink im_X12_nextLink se_X12_nextLink ml_X12_316 rfl wm_0 (by decide) (by decide) rfl (Nat.le_of_ble_eq_true rfl) dX12_strayNow_75 rfl rfl ?_
          cases hf
          exact x_iret g rfl ho dX12_strayNow_78
/-! SlotChipModel.straying(II)I -/
def f_X12_straying (σ : St) (p1 : Int32) (p2 : Int32) : Option Int32 :=
  (f_X12_within p1 0 ((σ.1 0 0 30) - 1)).bind fun r1 =>
  if r1 = 0 then
    some (-101)
  else
    ((f_X12_within p2 0 4).bind fun r2 =>
    if r2 = 0 then
      some (-102)
    else
      ((f_X12_strayNow σ p1 p2).bind fun r3 =>
      some r3))
set_option maxHeartbeats 4000000 in
set_option maxRecDepth 100000 in
theorem c_X12_straying {l : Launch} {D : va_G} {cy : Nat → ClassId} {Ad : Nat → Nat} (hA : AdOK 37 Ad) {σ : St} {p1 : Int32} {p2 : Int32} {o : Int32} (hf : f_X12_straying σ p1 p2 = some o) : CT l (wM cy Ad) D cy (AdA 37 Ad) yX12_straying cX12_straying 3 (some .int) 2 [.ref (Ad 0), .int p1, .int p2] σ (σ, (some (.int o))) := by
  refine CT.of mf_X12_straying (wM_D hA) (Nat.le_of_ble_eq_true rfl) ?_
  intro E xl g
  have ho : ((σ, (some (.int o))) : St × Option Value) = (σ, (some (.int o))) := rfl
  unfold f_X12_straying at hf
  show XJ E (wM cy Ad σ) 0 [(0, .ref (Ad 0)), (1, .int p1), (2, .int p2)] []
  refine x_iload_n g 1 dX12_straying_0 rfl rfl ?_
  refine x_iconst g 0 dX12_straying_1 (by decide) ?_
  refine x_aload_n g 0 dX12_straying_2 rfl rfl ?_
  refine x_get g fl_X12_194 wm_0 rfl dX12_straying_3 ?_
  refine x_iconst g 1 dX12_straying_6 (by decide) ?_
  refine x_isub g dX12_straying_7 ?_
  obtain ⟨r1, hgr1, hf⟩ := obind hf
  refine x_callS g xl [.int p1, .int 0, .int ((σ.1 0 0 30) - 1)] [] [.int r1] (c_X12_within hA hgr1) mf_X12_within sm_X12_within ml_X12_130 (by decide) (by decide) rfl (Nat.le_of_ble_eq_true rfl) dX12_straying_8 rfl rfl ?_
  refine x_if_ne g 19 dX12_straying_11 (by decide) hf (fun c11 hf => ?_) (fun c11 hf => ?_)
  · refine x_bipush g (-101) dX12_straying_14 (by decide) ?_
    refine x_goto g 39 dX12_straying_16 (by decide) ?_
    cases hf
    exact x_iret g rfl ho dX12_straying_39
  · refine x_iload_n g 2 dX12_straying_19 rfl rfl ?_
    refine x_iconst g 0 dX12_straying_20 (by decide) ?_
    refine x_iconst g 4 dX12_straying_21 (by decide) ?_
    obtain ⟨r2, hgr2, hf⟩ := obind hf
    refine x_callS g xl [.int p2, .int 0, .int 4] [] [.int r2] (c_X12_within hA hgr2) mf_X12_within sm_X12_within ml_X12_130 (by decide) (by decide) rfl (Nat.le_of_ble_eq_true rfl) dX12_straying_22 rfl rfl ?_
    refine x_if_eq g 37 dX12_straying_25 (by decide) hf (fun c25 hf => ?_) (fun c25 hf => ?_)
    · refine x_bipush g (-102) dX12_straying_37 (by decide) ?_
      cases hf
      exact x_iret g rfl ho dX12_straying_39
    · refine x_aload_n g 0 dX12_straying_28 rfl rfl ?_
      refine x_iload_n g 1 dX12_straying_29 rfl rfl ?_
      refine x_iload_n g 2 dX12_straying_30 rfl rfl ?_
      obtain ⟨r3, hgr3, hf⟩ := obind hf
      refine x_callV (r := (RX12, TX12, 53)) g xl [.int p1, .int p2] [] [.int r3] (c_X12_strayNow hA hgr3) mf_X12_strayNow im_X12_strayNow se_X12_strayNow ml_X12_319 rfl wm_0 (by decide) (by decide) rfl (Nat.le_of_ble_eq_true rfl) dX12_straying_31 rfl rfl ?_
      refine x_goto g 39 dX12_straying_34 (by decide) ?_
      cases hf
      exact x_iret g rfl ho dX12_straying_39
/-! SlotChipModel.arrivedNow(II)I -/
def f_X12_arrivedNow (σ : St) (p1 : Int32) (p2 : Int32) : Option Int32 :=
  if p2 = 0 then
    (chk (inb p1 2) (
      some (σ.1 36 0 (Int32.toNatClampNeg p1))))
  else
    (if p2 = 1 then
      (chk (inb p1 2) (
        some (σ.1 37 0 (Int32.toNatClampNeg p1))))
    else
      (chk (inb p1 2) (
        some (σ.1 38 0 (Int32.toNatClampNeg p1)))))
set_option maxHeartbeats 4000000 in
set_option maxRecDepth 100000 in
theorem c_X12_arrivedNow {l : Launch} {D : va_G} {cy : Nat → ClassId} {Ad : Nat → Nat} (hA : AdOK 37 Ad) {σ : St} {p1 : Int32} {p2 : Int32} {o : Int32} (hf : f_X12_arrivedNow σ p1 p2 = some o) : CT l (wM cy Ad) D cy (AdA 37 Ad) yX12_arrivedNow cX12_arrivedNow 3 (some .int) 0 [.ref (Ad 0), .int p1, .int p2] σ (σ, (some (.int o))) := by
  refine CT.of mf_X12_arrivedNow (wM_D hA) (Nat.le_of_ble_eq_true rfl) ?_
  intro E xl g
  have ho : ((σ, (some (.int o))) : St × Option Value) = (σ, (some (.int o))) := rfl
  unfold f_X12_arrivedNow at hf
  show XJ E (wM cy Ad σ) 0 [(0, .ref (Ad 0)), (1, .int p1), (2, .int p2)] []
  refine x_iload_n g 2 dX12_arrivedNow_0 rfl rfl ?_
  refine x_if_ne g 13 dX12_arrivedNow_1 (by decide) hf (fun c1 hf => ?_) (fun c1 hf => ?_)
  · refine x_aload_n g 0 dX12_arrivedNow_4 rfl rfl ?_
    refine x_get g fl_X12_95 wm_0 rfl dX12_arrivedNow_5 ?_
    refine x_iload_n g 1 dX12_arrivedNow_8 rfl rfl ?_
    refine x_iald g wm_29 dX12_arrivedNow_9 hf (fun hf => ?_)
    refine x_goto g 33 dX12_arrivedNow_10 (by decide) ?_
    cases hf
    exact x_iret g rfl ho dX12_arrivedNow_33
  · refine x_iload_n g 2 dX12_arrivedNow_13 rfl rfl ?_
    refine x_iconst g 1 dX12_arrivedNow_14 (by decide) ?_
    refine x_icmp_ne g 27 dX12_arrivedNow_15 (by decide) hf (fun c15 hf => ?_) (fun c15 hf => ?_)
    · refine x_aload_n g 0 dX12_arrivedNow_18 rfl rfl ?_
      refine x_get g fl_X12_98 wm_0 rfl dX12_arrivedNow_19 ?_
      refine x_iload_n g 1 dX12_arrivedNow_22 rfl rfl ?_
      refine x_iald g wm_30 dX12_arrivedNow_23 hf (fun hf => ?_)
      refine x_goto g 33 dX12_arrivedNow_24 (by decide) ?_
      cases hf
      exact x_iret g rfl ho dX12_arrivedNow_33
    · refine x_aload_n g 0 dX12_arrivedNow_27 rfl rfl ?_
      refine x_get g fl_X12_101 wm_0 rfl dX12_arrivedNow_28 ?_
      refine x_iload_n g 1 dX12_arrivedNow_31 rfl rfl ?_
      refine x_iald g wm_31 dX12_arrivedNow_32 hf (fun hf => ?_)
      cases hf
      exact x_iret g rfl ho dX12_arrivedNow_33
/-! SlotChipModel.arrived(ZI)I -/
def f_X12_arrived (σ : St) (p1 : Int32) (p2 : Int32) : Option Int32 :=
  (f_X12_within p2 0 2).bind fun r1 =>
  if r1 = 0 then
    some (-102)
  else
    (if p1 = 0 then
      ((f_X12_arrivedNow σ 0 p2).bind fun r2 =>
      some r2)
    else
      ((f_X12_arrivedNow σ 1 p2).bind fun r3 =>
      some r3))
set_option maxHeartbeats 4000000 in
set_option maxRecDepth 100000 in
theorem c_X12_arrived {l : Launch} {D : va_G} {cy : Nat → ClassId} {Ad : Nat → Nat} (hA : AdOK 37 Ad) {σ : St} {p1 : Int32} {p2 : Int32} {o : Int32} (hf : f_X12_arrived σ p1 p2 = some o) : CT l (wM cy Ad) D cy (AdA 37 Ad) yX12_arrived cX12_arrived 3 (some .int) 1 [.ref (Ad 0), .int p1, .int p2] σ (σ, (some (.int o))) := by
  refine CT.of mf_X12_arrived (wM_D hA) (Nat.le_of_ble_eq_true rfl) ?_
  intro E xl g
  have ho : ((σ, (some (.int o))) : St × Option Value) = (σ, (some (.int o))) := rfl
  unfold f_X12_arrived at hf
  show XJ E (wM cy Ad σ) 0 [(0, .ref (Ad 0)), (1, .int p1), (2, .int p2)] []
  refine x_iload_n g 2 dX12_arrived_0 rfl rfl ?_
  refine x_iconst g 0 dX12_arrived_1 (by decide) ?_
  refine x_iconst g 2 dX12_arrived_2 (by decide) ?_
  obtain ⟨r1, hgr1, hf⟩ := obind hf
  refine x_callS g xl [.int p2, .int 0, .int 2] [] [.int r1] (c_X12_within hA hgr1) mf_X12_within sm_X12_within ml_X12_130 (by decide) (by decide) rfl (Nat.le_of_ble_eq_true rfl) dX12_arrived_3 rfl rfl ?_
  refine x_if_eq g 26 dX12_arrived_6 (by decide) hf (fun c6 hf => ?_) (fun c6 hf => ?_)
  · refine x_bipush g (-102) dX12_arrived_26 (by decide) ?_
    cases hf
    exact x_iret g rfl ho dX12_arrived_28
  · refine x_aload_n g 0 dX12_arrived_9 rfl rfl ?_
    refine x_iload_n g 1 dX12_arrived_10 rfl rfl ?_
    refine x_if_eq g 18 dX12_arrived_11 (by decide) hf (fun c11 hf => ?_) (fun c11 hf => ?_)
    · refine x_iconst g 0 dX12_arrived_18 (by decide) ?_
      refine x_iload_n g 2 dX12_arrived_19 rfl rfl ?_
      obtain ⟨r2, hgr2, hf⟩ := obind hf
      refine x_callV (r := (RX12, TX12, 53)) g xl [.int 0, .int p2] [] [.int r2] (c_X12_arrivedNow hA hgr2) mf_X12_arrivedNow im_X12_arrivedNow se_X12_arrivedNow ml_X12_322 rfl wm_0 (by decide) (by decide) rfl (Nat.le_of_ble_eq_true rfl) dX12_arrived_20 rfl rfl ?_
      refine x_goto g 28 dX12_arrived_23 (by decide) ?_
      cases hf
      exact x_iret g rfl ho dX12_arrived_28
    · refine x_iconst g 1 dX12_arrived_14 (by decide) ?_
      refine x_goto g 19 dX12_arrived_15 (by decide) ?_
      refine x_iload_n g 2 dX12_arrived_19 rfl rfl ?_
      obtain ⟨r3, hgr3, hf⟩ := obind hf
      refine x_callV (r := (RX12, TX12, 53)) g xl [.int 1, .int p2] [] [.int r3] (c_X12_arrivedNow hA hgr3) mf_X12_arrivedNow im_X12_arrivedNow se_X12_arrivedNow ml_X12_322 rfl wm_0 (by decide) (by decide) rfl (Nat.le_of_ble_eq_true rfl) dX12_arrived_20 rfl rfl ?_
      refine x_goto g 28 dX12_arrived_23 (by decide) ?_
      cases hf
      exact x_iret g rfl ho dX12_arrived_28
/-! SlotChipModel.fasterNow()I -/
def f_X12_fasterNow (σ : St) : Option Int32 :=
  if (σ.1 36 0 0) = 0 then
    some (-2)
  else
    (if (σ.1 36 0 1) = 0 then
      some (-2)
    else
      (bnd ((Int32.toInt64 (σ.1 37 0 1)) * (Int32.toInt64 (σ.1 36 0 0))) fun y1 =>
      bnd ((Int32.toInt64 (σ.1 37 0 0)) * (Int32.toInt64 (σ.1 36 0 1))) fun y2 =>
      if (lg_cmp y1 y2) < 0 then
        some 1
      else
        (if (lg_cmp y1 y2) = 0 then
          some 0
        else
          some (-1))))
set_option maxHeartbeats 4000000 in
set_option maxRecDepth 100000 in
theorem c_X12_fasterNow {l : Launch} {D : va_G} {cy : Nat → ClassId} {Ad : Nat → Nat} (hA : AdOK 37 Ad) {σ : St} {o : Int32} (hf : f_X12_fasterNow σ = some o) : CT l (wM cy Ad) D cy (AdA 37 Ad) yX12_fasterNow cX12_fasterNow 5 (some .int) 0 [.ref (Ad 0)] σ (σ, (some (.int o))) := by
  refine CT.of mf_X12_fasterNow (wM_D hA) (Nat.le_of_ble_eq_true rfl) ?_
  intro E xl g
  have ho : ((σ, (some (.int o))) : St × Option Value) = (σ, (some (.int o))) := rfl
  unfold f_X12_fasterNow at hf
  show XJ E (wM cy Ad σ) 0 [(0, .ref (Ad 0))] []
  refine x_aload_n g 0 dX12_fasterNow_0 rfl rfl ?_
  refine x_get g fl_X12_95 wm_0 rfl dX12_fasterNow_1 ?_
  refine x_iconst g 0 dX12_fasterNow_4 (by decide) ?_
  refine x_iald g wm_29 dX12_fasterNow_5 (chk_of (by decide) hf) (fun hf => ?_)
  refine x_if_eq g 18 dX12_fasterNow_6 (by decide) hf (fun c6 hf => ?_) (fun c6 hf => ?_)
  · refine x_bipush g (-2) dX12_fasterNow_18 (by decide) ?_
    cases hf
    exact x_iret g rfl ho dX12_fasterNow_20
  · refine x_aload_n g 0 dX12_fasterNow_9 rfl rfl ?_
    refine x_get g fl_X12_95 wm_0 rfl dX12_fasterNow_10 ?_
    refine x_iconst g 1 dX12_fasterNow_13 (by decide) ?_
    refine x_iald g wm_29 dX12_fasterNow_14 (chk_of (by decide) hf) (fun hf => ?_)
    refine x_if_ne g 21 dX12_fasterNow_15 (by decide) hf (fun c15 hf => ?_) (fun c15 hf => ?_)
    · refine x_bipush g (-2) dX12_fasterNow_18 (by decide) ?_
      cases hf
      exact x_iret g rfl ho dX12_fasterNow_20
    · refine x_aload_n g 0 dX12_fasterNow_21 rfl rfl ?_
      refine x_get g fl_X12_98 wm_0 rfl dX12_fasterNow_22 ?_
      refine x_iconst g 1 dX12_fasterNow_25 (by decide) ?_
      refine x_iald g wm_30 dX12_fasterNow_26 (chk_of (by decide) hf) (fun hf => ?_)
      refine x_i2l g dX12_fasterNow_27 ?_
      refine x_aload_n g 0 dX12_fasterNow_28 rfl rfl ?_
      refine x_get g fl_X12_95 wm_0 rfl dX12_fasterNow_29 ?_
      refine x_iconst g 0 dX12_fasterNow_32 (by decide) ?_
      refine x_iald g wm_29 dX12_fasterNow_33 (chk_of (by decide) hf) (fun hf => ?_)
      refine x_i2l g dX12_fasterNow_34 ?_
      refine x_lmul g dX12_fasterNow_35 ?_
      refine x_naml hf (fun y1 hf => ?_)
      refine x_lstore_n (lv' := [(1, .long y1), (0, .ref (Ad 0))]) g dX12_fasterNow_36 rfl (by decide) rfl ?_
      refine x_aload_n g 1 dX12_fasterNow_37 rfl rfl ?_
      refine x_get g fl_X12_98 wm_0 rfl dX12_fasterNow_38 ?_
      refine x_iconst g 0 dX12_fasterNow_41 (by decide) ?_
      refine x_iald g wm_30 dX12_fasterNow_42 (chk_of (by decide) hf) (fun hf => ?_)
      refine x_i2l g dX12_fasterNow_43 ?_
      refine x_aload_n g 1 dX12_fasterNow_44 rfl rfl ?_
      refine x_get g fl_X12_95 wm_0 rfl dX12_fasterNow_45 ?_
      refine x_iconst g 1 dX12_fasterNow_48 (by decide) ?_
      refine x_iald g wm_29 dX12_fasterNow_49 (chk_of (by decide) hf) (fun hf => ?_)
      refine x_i2l g dX12_fasterNow_50 ?_
      refine x_lmul g dX12_fasterNow_51 ?_
      refine x_naml hf (fun y2 hf => ?_)
      refine x_lstore_n (lv' := [(3, .long y2), (1, .long y1), (0, .ref (Ad 0))]) g dX12_fasterNow_52 rfl (by decide) rfl ?_
      refine x_lload_n g 1 dX12_fasterNow_53 rfl rfl ?_
      refine x_lload_n g 0 dX12_fasterNow_54 rfl rfl ?_
      refine x_lcmp g dX12_fasterNow_55 ?_
      refine x_if_ge g 63 dX12_fasterNow_56 (by decide) hf (fun c56 hf => ?_) (fun c56 hf => ?_)
      · refine x_iconst g 1 dX12_fasterNow_59 (by decide) ?_
        refine x_goto g 74 dX12_fasterNow_60 (by decide) ?_
        cases hf
        exact x_iret g rfl ho dX12_fasterNow_74
      · refine x_lload_n g 1 dX12_fasterNow_63 rfl rfl ?_
        refine x_lload_n g 0 dX12_fasterNow_64 rfl rfl ?_
        refine x_lcmp g dX12_fasterNow_65 ?_
        refine x_if_ne g 73 dX12_fasterNow_66 (by decide) hf (fun c66 hf => ?_) (fun c66 hf => ?_)
        · refine x_iconst g 0 dX12_fasterNow_69 (by decide) ?_
          refine x_goto g 74 dX12_fasterNow_70 (by decide) ?_
          cases hf
          exact x_iret g rfl ho dX12_fasterNow_74
        · refine x_iconst g (-1) dX12_fasterNow_73 (by decide) ?_
          cases hf
          exact x_iret g rfl ho dX12_fasterNow_74
/-! SlotChipModel.faster()I -/
def f_X12_faster (σ : St) : Option Int32 :=
  (f_X12_fasterNow σ).bind fun r1 =>
  some r1
set_option maxHeartbeats 4000000 in
set_option maxRecDepth 100000 in
theorem c_X12_faster {l : Launch} {D : va_G} {cy : Nat → ClassId} {Ad : Nat → Nat} (hA : AdOK 37 Ad) {σ : St} {o : Int32} (hf : f_X12_faster σ = some o) : CT l (wM cy Ad) D cy (AdA 37 Ad) yX12_faster cX12_faster 1 (some .int) 1 [.ref (Ad 0)] σ (σ, (some (.int o))) := by
  refine CT.of mf_X12_faster (wM_D hA) (Nat.le_of_ble_eq_true rfl) ?_
  intro E xl g
  have ho : ((σ, (some (.int o))) : St × Option Value) = (σ, (some (.int o))) := rfl
  unfold f_X12_faster at hf
  show XJ E (wM cy Ad σ) 0 [(0, .ref (Ad 0))] []
  refine x_aload_n g 0 dX12_faster_0 rfl rfl ?_
  obtain ⟨r1, hgr1, hf⟩ := obind hf
  refine x_callV (r := (RX12, TX12, 53)) g xl [] [] [.int r1] (c_X12_fasterNow hA hgr1) mf_X12_fasterNow im_X12_fasterNow se_X12_fasterNow ml_X12_325 rfl wm_0 (by decide) (by decide) rfl (Nat.le_of_ble_eq_true rfl) dX12_faster_1 rfl rfl ?_
  cases hf
  exact x_iret g rfl ho dX12_faster_4
/-! SlotChipModel.leave(I)V -/
def f_X12_leave (σ : St) (p1 : Int32) : Option St :=
  chk (inb p1 8) (
    bnd (σ.1 23 0 (Int32.toNatClampNeg p1)) fun y1 =>
    chk (inb p1 8) (
      if 0 < (σ.1 18 0 (Int32.toNatClampNeg p1)) then
        (chk (inb p1 8) (
          if 0 < (σ.1 19 0 (Int32.toNatClampNeg p1)) then
            (if y1 = (-1) then
              (chk (inb p1 8) (
                chk (inb p1 8) (
                  bnd (si σ 18 0 (Int32.toNatClampNeg p1) ((σ.1 18 0 (Int32.toNatClampNeg p1)) - 1)) fun σ2 =>
                  chk (inb p1 8) (
                    chk (inb p1 8) (
                      bnd (si σ2 19 0 (Int32.toNatClampNeg p1) ((σ2.1 19 0 (Int32.toNatClampNeg p1)) - 1)) fun σ3 =>
                      chk (inb (σ3.1 0 0 25) 96) (
                        bnd (si σ3 26 0 (Int32.toNatClampNeg (σ3.1 0 0 25)) p1) fun σ4 =>
                        chk (inb (σ4.1 0 0 25) 96) (
                          bnd (si σ4 27 0 (Int32.toNatClampNeg (σ4.1 0 0 25)) (σ4.1 0 0 3)) fun σ5 =>
                          chk (inb (σ5.1 0 0 25) 96) (
                            bnd (si σ5 28 0 (Int32.toNatClampNeg (σ5.1 0 0 25)) 1) fun σ6 =>
                            chk (inb (σ6.1 0 0 25) 96) (
                              bnd (si σ6 29 0 (Int32.toNatClampNeg (σ6.1 0 0 25)) 0) fun σ7 =>
                              bnd (si σ7 0 0 25 ((σ7.1 0 0 25) + 1)) fun σ8 =>
                              some σ8)))))))))
            else
              (chk (inb y1 8) (
                if 3 < (σ.1 21 0 (Int32.toNatClampNeg y1)) then
                  (chk (inb p1 8) (
                    chk (inb p1 8) (
                      bnd (si σ 18 0 (Int32.toNatClampNeg p1) ((σ.1 18 0 (Int32.toNatClampNeg p1)) - 1)) fun σ9 =>
                      chk (inb p1 8) (
                        chk (inb p1 8) (
                          bnd (si σ9 19 0 (Int32.toNatClampNeg p1) ((σ9.1 19 0 (Int32.toNatClampNeg p1)) - 1)) fun σ10 =>
                          chk (inb y1 8) (
                            chk (inb y1 8) (
                              bnd (si σ10 21 0 (Int32.toNatClampNeg y1) ((σ10.1 21 0 (Int32.toNatClampNeg y1)) - 3)) fun σ11 =>
                              chk (inb (σ11.1 0 0 25) 96) (
                                bnd (si σ11 26 0 (Int32.toNatClampNeg (σ11.1 0 0 25)) p1) fun σ12 =>
                                chk (inb (σ12.1 0 0 25) 96) (
                                  bnd (si σ12 27 0 (Int32.toNatClampNeg (σ12.1 0 0 25)) (σ12.1 0 0 3)) fun σ13 =>
                                  chk (inb (σ13.1 0 0 25) 96) (
                                    bnd (si σ13 28 0 (Int32.toNatClampNeg (σ13.1 0 0 25)) 1) fun σ14 =>
                                    chk (inb (σ14.1 0 0 25) 96) (
                                      bnd (si σ14 29 0 (Int32.toNatClampNeg (σ14.1 0 0 25)) 3) fun σ15 =>
                                      bnd (si σ15 0 0 25 ((σ15.1 0 0 25) + 1)) fun σ16 =>
                                      some σ16)))))))))))
                else
                  (chk (inb y1 8) (
                    bnd (σ.1 21 0 (Int32.toNatClampNeg y1)) fun y17 =>
                    chk (inb p1 8) (
                      chk (inb p1 8) (
                        bnd (si σ 18 0 (Int32.toNatClampNeg p1) ((σ.1 18 0 (Int32.toNatClampNeg p1)) - 1)) fun σ18 =>
                        chk (inb p1 8) (
                          chk (inb p1 8) (
                            bnd (si σ18 19 0 (Int32.toNatClampNeg p1) ((σ18.1 19 0 (Int32.toNatClampNeg p1)) - 1)) fun σ19 =>
                            if 0 < y17 then
                              (chk (inb y1 8) (
                                chk (inb y1 8) (
                                  bnd (si σ19 21 0 (Int32.toNatClampNeg y1) ((σ19.1 21 0 (Int32.toNatClampNeg y1)) - y17)) fun σ20 =>
                                  chk (inb (σ20.1 0 0 25) 96) (
                                    bnd (si σ20 26 0 (Int32.toNatClampNeg (σ20.1 0 0 25)) p1) fun σ21 =>
                                    chk (inb (σ21.1 0 0 25) 96) (
                                      bnd (si σ21 27 0 (Int32.toNatClampNeg (σ21.1 0 0 25)) (σ21.1 0 0 3)) fun σ22 =>
                                      chk (inb (σ22.1 0 0 25) 96) (
                                        bnd (si σ22 28 0 (Int32.toNatClampNeg (σ22.1 0 0 25)) 1) fun σ23 =>
                                        chk (inb (σ23.1 0 0 25) 96) (
                                          bnd (si σ23 29 0 (Int32.toNatClampNeg (σ23.1 0 0 25)) y17) fun σ24 =>
                                          bnd (si σ24 0 0 25 ((σ24.1 0 0 25) + 1)) fun σ25 =>
                                          some σ25)))))))
                            else
                              (chk (inb (σ19.1 0 0 25) 96) (
                                bnd (si σ19 26 0 (Int32.toNatClampNeg (σ19.1 0 0 25)) p1) fun σ26 =>
                                chk (inb (σ26.1 0 0 25) 96) (
                                  bnd (si σ26 27 0 (Int32.toNatClampNeg (σ26.1 0 0 25)) (σ26.1 0 0 3)) fun σ27 =>
                                  chk (inb (σ27.1 0 0 25) 96) (
                                    bnd (si σ27 28 0 (Int32.toNatClampNeg (σ27.1 0 0 25)) 1) fun σ28 =>
                                    chk (inb (σ28.1 0 0 25) 96) (
                                      bnd (si σ28 29 0 (Int32.toNatClampNeg (σ28.1 0 0 25)) y17) fun σ29 =>
                                      bnd (si σ29 0 0 25 ((σ29.1 0 0 25) + 1)) fun σ30 =>
                                      some σ30))))))))))))))
          else
            (if y1 = (-1) then
              some σ
            else
              (chk (inb y1 8) (
                if 3 < (σ.1 21 0 (Int32.toNatClampNeg y1)) then
                  (chk (inb y1 8) (
                    chk (inb y1 8) (
                      bnd (si σ 21 0 (Int32.toNatClampNeg y1) ((σ.1 21 0 (Int32.toNatClampNeg y1)) - 3)) fun σ31 =>
                      chk (inb (σ31.1 0 0 25) 96) (
                        bnd (si σ31 26 0 (Int32.toNatClampNeg (σ31.1 0 0 25)) p1) fun σ32 =>
                        chk (inb (σ32.1 0 0 25) 96) (
                          bnd (si σ32 27 0 (Int32.toNatClampNeg (σ32.1 0 0 25)) (σ32.1 0 0 3)) fun σ33 =>
                          chk (inb (σ33.1 0 0 25) 96) (
                            bnd (si σ33 28 0 (Int32.toNatClampNeg (σ33.1 0 0 25)) 0) fun σ34 =>
                            chk (inb (σ34.1 0 0 25) 96) (
                              bnd (si σ34 29 0 (Int32.toNatClampNeg (σ34.1 0 0 25)) 3) fun σ35 =>
                              bnd (si σ35 0 0 25 ((σ35.1 0 0 25) + 1)) fun σ36 =>
                              some σ36)))))))
                else
                  (chk (inb y1 8) (
                    bnd (σ.1 21 0 (Int32.toNatClampNeg y1)) fun y37 =>
                    if y37 = 0 then
                      some σ
                    else
                      (if 0 < y37 then
                        (chk (inb y1 8) (
                          chk (inb y1 8) (
                            bnd (si σ 21 0 (Int32.toNatClampNeg y1) ((σ.1 21 0 (Int32.toNatClampNeg y1)) - y37)) fun σ38 =>
                            chk (inb (σ38.1 0 0 25) 96) (
                              bnd (si σ38 26 0 (Int32.toNatClampNeg (σ38.1 0 0 25)) p1) fun σ39 =>
                              chk (inb (σ39.1 0 0 25) 96) (
                                bnd (si σ39 27 0 (Int32.toNatClampNeg (σ39.1 0 0 25)) (σ39.1 0 0 3)) fun σ40 =>
                                chk (inb (σ40.1 0 0 25) 96) (
                                  bnd (si σ40 28 0 (Int32.toNatClampNeg (σ40.1 0 0 25)) 0) fun σ41 =>
                                  chk (inb (σ41.1 0 0 25) 96) (
                                    bnd (si σ41 29 0 (Int32.toNatClampNeg (σ41.1 0 0 25)) y37) fun σ42 =>
                                    bnd (si σ42 0 0 25 ((σ42.1 0 0 25) + 1)) fun σ43 =>
                                    some σ43)))))))
                      else
                        (chk (inb (σ.1 0 0 25) 96) (
                          bnd (si σ 26 0 (Int32.toNatClampNeg (σ.1 0 0 25)) p1) fun σ44 =>
                          chk (inb (σ44.1 0 0 25) 96) (
                            bnd (si σ44 27 0 (Int32.toNatClampNeg (σ44.1 0 0 25)) (σ44.1 0 0 3)) fun σ45 =>
                            chk (inb (σ45.1 0 0 25) 96) (
                              bnd (si σ45 28 0 (Int32.toNatClampNeg (σ45.1 0 0 25)) 0) fun σ46 =>
                              chk (inb (σ46.1 0 0 25) 96) (
                                bnd (si σ46 29 0 (Int32.toNatClampNeg (σ46.1 0 0 25)) y37) fun σ47 =>
                                bnd (si σ47 0 0 25 ((σ47.1 0 0 25) + 1)) fun σ48 =>
                                some σ48)))))))))))))
      else
        (if y1 = (-1) then
          some σ
        else
          (chk (inb y1 8) (
            if 3 < (σ.1 21 0 (Int32.toNatClampNeg y1)) then
              (chk (inb y1 8) (
                chk (inb y1 8) (
                  bnd (si σ 21 0 (Int32.toNatClampNeg y1) ((σ.1 21 0 (Int32.toNatClampNeg y1)) - 3)) fun σ49 =>
                  chk (inb (σ49.1 0 0 25) 96) (
                    bnd (si σ49 26 0 (Int32.toNatClampNeg (σ49.1 0 0 25)) p1) fun σ50 =>
                    chk (inb (σ50.1 0 0 25) 96) (
                      bnd (si σ50 27 0 (Int32.toNatClampNeg (σ50.1 0 0 25)) (σ50.1 0 0 3)) fun σ51 =>
                      chk (inb (σ51.1 0 0 25) 96) (
                        bnd (si σ51 28 0 (Int32.toNatClampNeg (σ51.1 0 0 25)) 0) fun σ52 =>
                        chk (inb (σ52.1 0 0 25) 96) (
                          bnd (si σ52 29 0 (Int32.toNatClampNeg (σ52.1 0 0 25)) 3) fun σ53 =>
                          bnd (si σ53 0 0 25 ((σ53.1 0 0 25) + 1)) fun σ54 =>
                          some σ54)))))))
            else
              (chk (inb y1 8) (
                bnd (σ.1 21 0 (Int32.toNatClampNeg y1)) fun y55 =>
                if y55 = 0 then
                  some σ
                else
                  (if 0 < y55 then
                    (chk (inb y1 8) (
                      chk (inb y1 8) (
                        bnd (si σ 21 0 (Int32.toNatClampNeg y1) ((σ.1 21 0 (Int32.toNatClampNeg y1)) - y55)) fun σ56 =>
                        chk (inb (σ56.1 0 0 25) 96) (
                          bnd (si σ56 26 0 (Int32.toNatClampNeg (σ56.1 0 0 25)) p1) fun σ57 =>
                          chk (inb (σ57.1 0 0 25) 96) (
                            bnd (si σ57 27 0 (Int32.toNatClampNeg (σ57.1 0 0 25)) (σ57.1 0 0 3)) fun σ58 =>
                            chk (inb (σ58.1 0 0 25) 96) (
                              bnd (si σ58 28 0 (Int32.toNatClampNeg (σ58.1 0 0 25)) 0) fun σ59 =>
                              chk (inb (σ59.1 0 0 25) 96) (
                                bnd (si σ59 29 0 (Int32.toNatClampNeg (σ59.1 0 0 25)) y55) fun σ60 =>
                                bnd (si σ60 0 0 25 ((σ60.1 0 0 25) + 1)) fun σ61 =>
                                some σ61)))))))
                  else
                    (chk (inb (σ.1 0 0 25) 96) (
                      bnd (si σ 26 0 (Int32.toNatClampNeg (σ.1 0 0 25)) p1) fun σ62 =>
                      chk (inb (σ62.1 0 0 25) 96) (
                        bnd (si σ62 27 0 (Int32.toNatClampNeg (σ62.1 0 0 25)) (σ62.1 0 0 3)) fun σ63 =>
                        chk (inb (σ63.1 0 0 25) 96) (
                          bnd (si σ63 28 0 (Int32.toNatClampNeg (σ63.1 0 0 25)) 0) fun σ64 =>
                          chk (inb (σ64.1 0 0 25) 96) (
                            bnd (si σ64 29 0 (Int32.toNatClampNeg (σ64.1 0 0 25)) y55) fun σ65 =>
                            bnd (si σ65 0 0 25 ((σ65.1 0 0 25) + 1)) fun σ66 =>
                            some σ66)))))))))))))
set_option maxHeartbeats 4000000 in
set_option maxRecDepth 100000 in
theorem c_X12_leave {l : Launch} {D : va_G} {cy : Nat → ClassId} {Ad : Nat → Nat} (hA : AdOK 37 Ad) {σ : St} {p1 : Int32} {o : St} (hf : f_X12_leave σ p1 = some o) : CT l (wM cy Ad) D cy (AdA 37 Ad) yX12_leave cX12_leave 5 none 0 [.ref (Ad 0), .int p1] σ (o, none) := by
  refine CT.of mf_X12_leave (wM_D hA) (Nat.le_of_ble_eq_true rfl) ?_
  intro E xl g
  have ho : ((o, none) : St × Option Value) = (o, none) := rfl
  unfold f_X12_leave at hf
  show XJ E (wM cy Ad σ) 0 [(0, .ref (Ad 0)), (1, .int p1)] []
  refine x_aload_n g 0 dX12_leave_0 rfl rfl ?_
  refine x_get g fl_X12_62 wm_0 rfl dX12_leave_1 ?_
  refine x_iload_n g 1 dX12_leave_4 rfl rfl ?_
  refine x_iald g wm_18 dX12_leave_5 hf (fun hf => ?_)
  refine x_nami hf (fun y1 hf => ?_)
  refine x_istore_n (lv' := [(2, .int y1), (0, .ref (Ad 0)), (1, .int p1)]) g dX12_leave_6 rfl (by decide) rfl ?_
  refine x_aload_n g 1 dX12_leave_7 rfl rfl ?_
  refine x_get g fl_X12_47 wm_0 rfl dX12_leave_8 ?_
  refine x_iload_n g 2 dX12_leave_11 rfl rfl ?_
  refine x_iald g wm_13 dX12_leave_12 hf (fun hf => ?_)
  refine x_if_le g 29 dX12_leave_13 (by decide) hf (fun c13 hf => ?_) (fun c13 hf => ?_)
  · refine x_aload_n g 1 dX12_leave_16 rfl rfl ?_
    refine x_get g fl_X12_50 wm_0 rfl dX12_leave_17 ?_
    refine x_iload_n g 2 dX12_leave_20 rfl rfl ?_
    refine x_iald g wm_14 dX12_leave_21 hf (fun hf => ?_)
    refine x_if_le g 29 dX12_leave_22 (by decide) hf (fun c22 hf => ?_) (fun c22 hf => ?_)
    · refine x_iconst g 1 dX12_leave_25 (by decide) ?_
      refine x_goto g 30 dX12_leave_26 (by decide) ?_
      refine x_istore_n (lv' := [(3, .int 1), (2, .int y1), (0, .ref (Ad 0)), (1, .int p1)]) g dX12_leave_30 rfl (by decide) rfl ?_
      refine x_iload_n g 1 dX12_leave_31 rfl rfl ?_
      refine x_iconst g (-1) dX12_leave_32 (by decide) ?_
      refine x_icmp_ne g 40 dX12_leave_33 (by decide) hf (fun c33 hf => ?_) (fun c33 hf => ?_)
      · refine x_iconst g 0 dX12_leave_36 (by decide) ?_
        refine x_goto g 60 dX12_leave_37 (by decide) ?_
        refine x_istore (lv' := [(4, .int 0), (3, .int 1), (2, .int y1), (0, .ref (Ad 0)), (1, .int p1)]) g dX12_leave_60 (by decide) rfl ?_
        refine x_iload_n g 1 dX12_leave_62 rfl rfl ?_
        refine x_if_ne_t g 72 dX12_leave_63 (by decide) (by decide) ?_
        refine x_iload_n g 1 dX12_leave_72 rfl rfl ?_
        refine x_if_eq_f g 96 dX12_leave_73 (by decide) (by decide) ?_
        refine x_aload_n g 3 dX12_leave_76 rfl rfl ?_
        refine x_get g fl_X12_47 wm_0 rfl dX12_leave_77 ?_
        refine x_iload_n g 4 dX12_leave_80 rfl rfl ?_
        refine x_dup2 g dX12_leave_81 rfl rfl ?_
        refine x_iald g wm_13 dX12_leave_82 hf (fun hf => ?_)
        refine x_iconst g 1 dX12_leave_83 (by decide) ?_
        refine x_isub g dX12_leave_84 ?_
        refine x_iastB g wm_13 (sm_13 _ _) dX12_leave_85 hf (fun σ2 hf => ?_)
        refine x_aload_n g 3 dX12_leave_86 rfl rfl ?_
        refine x_get g fl_X12_50 wm_0 rfl dX12_leave_87 ?_
        refine x_iload_n g 4 dX12_leave_90 rfl rfl ?_
        refine x_dup2 g dX12_leave_91 rfl rfl ?_
        refine x_iald g wm_14 dX12_leave_92 hf (fun hf => ?_)
        refine x_iconst g 1 dX12_leave_93 (by decide) ?_
        refine x_isub g dX12_leave_94 ?_
        refine x_iastB g wm_14 (sm_14 _ _) dX12_leave_95 hf (fun σ3 hf => ?_)
        refine x_iload g 0 dX12_leave_96 rfl ?_
        refine x_if_le_t g 112 dX12_leave_98 (by decide) (by decide) ?_
        refine x_aload_n g 3 dX12_leave_112 rfl rfl ?_
        refine x_get g fl_X12_68 wm_0 rfl dX12_leave_113 ?_
        refine x_aload_n g 3 dX12_leave_116 rfl rfl ?_
        refine x_get g fl_X12_191 wm_0 rfl dX12_leave_117 ?_
        refine x_iload_n g 4 dX12_leave_120 rfl rfl ?_
        refine x_iastB g wm_20 (sm_20 _ _) dX12_leave_121 hf (fun σ4 hf => ?_)
        refine x_aload_n g 3 dX12_leave_122 rfl rfl ?_
        refine x_get g fl_X12_71 wm_0 rfl dX12_leave_123 ?_
        refine x_aload_n g 3 dX12_leave_126 rfl rfl ?_
        refine x_get g fl_X12_191 wm_0 rfl dX12_leave_127 ?_
        refine x_aload_n g 3 dX12_leave_130 rfl rfl ?_
        refine x_get g fl_X12_188 wm_0 rfl dX12_leave_131 ?_
        refine x_iastB g wm_21 (sm_21 _ _) dX12_leave_134 hf (fun σ5 hf => ?_)
        refine x_aload_n g 3 dX12_leave_135 rfl rfl ?_
        refine x_get g fl_X12_74 wm_0 rfl dX12_leave_136 ?_
        refine x_aload_n g 3 dX12_leave_139 rfl rfl ?_
        refine x_get g fl_X12_191 wm_0 rfl dX12_leave_140 ?_
        refine x_iload_n g 1 dX12_leave_143 rfl rfl ?_
        refine x_if_eq_f g 151 dX12_leave_144 (by decide) (by decide) ?_
        refine x_iconst g 1 dX12_leave_147 (by decide) ?_
        refine x_goto g 152 dX12_leave_148 (by decide) ?_
        refine x_iastB g wm_22 (sm_22 _ _) dX12_leave_152 hf (fun σ6 hf => ?_)
        refine x_aload_n g 3 dX12_leave_153 rfl rfl ?_
        refine x_get g fl_X12_77 wm_0 rfl dX12_leave_154 ?_
        refine x_aload_n g 3 dX12_leave_157 rfl rfl ?_
        refine x_get g fl_X12_191 wm_0 rfl dX12_leave_158 ?_
        refine x_iload g 0 dX12_leave_161 rfl ?_
        refine x_iastB g wm_23 (sm_23 _ _) dX12_leave_163 hf (fun σ7 hf => ?_)
        refine x_aload_n g 3 dX12_leave_164 rfl rfl ?_
        refine x_dup g dX12_leave_165 rfl ?_
        refine x_get g fl_X12_191 wm_0 rfl dX12_leave_166 ?_
        refine x_iconst g 1 dX12_leave_169 (by decide) ?_
        refine x_iadd g dX12_leave_170 ?_
        refine x_putB g tyX12 fl_X12_191 tyX12_ok nmX12 wm_0 rfl rfl rfl (Nat.le_of_ble_eq_true rfl) (sm_0_25 _) dX12_leave_171 hf (fun σ8 hf => ?_)
        cases hf
        exact x_vret g rfl ho dX12_leave_174
      · refine x_aload_n g 2 dX12_leave_40 rfl rfl ?_
        refine x_get g fl_X12_56 wm_0 rfl dX12_leave_41 ?_
        refine x_iload_n g 1 dX12_leave_44 rfl rfl ?_
        refine x_iald g wm_16 dX12_leave_45 hf (fun hf => ?_)
        refine x_iconst g 3 dX12_leave_46 (by decide) ?_
        refine x_icmp_le g 54 dX12_leave_47 (by decide) hf (fun c47 hf => ?_) (fun c47 hf => ?_)
        · refine x_iconst g 3 dX12_leave_50 (by decide) ?_
          refine x_goto g 60 dX12_leave_51 (by decide) ?_
          refine x_istore (lv' := [(4, .int 3), (3, .int 1), (2, .int y1), (0, .ref (Ad 0)), (1, .int p1)]) g dX12_leave_60 (by decide) rfl ?_
          refine x_iload_n g 1 dX12_leave_62 rfl rfl ?_
          refine x_if_ne_t g 72 dX12_leave_63 (by decide) (by decide) ?_
          refine x_iload_n g 1 dX12_leave_72 rfl rfl ?_
          refine x_if_eq_f g 96 dX12_leave_73 (by decide) (by decide) ?_
          refine x_aload_n g 3 dX12_leave_76 rfl rfl ?_
          refine x_get g fl_X12_47 wm_0 rfl dX12_leave_77 ?_
          refine x_iload_n g 4 dX12_leave_80 rfl rfl ?_
          refine x_dup2 g dX12_leave_81 rfl rfl ?_
          refine x_iald g wm_13 dX12_leave_82 hf (fun hf => ?_)
          refine x_iconst g 1 dX12_leave_83 (by decide) ?_
          refine x_isub g dX12_leave_84 ?_
          refine x_iastB g wm_13 (sm_13 _ _) dX12_leave_85 hf (fun σ9 hf => ?_)
          refine x_aload_n g 3 dX12_leave_86 rfl rfl ?_
          refine x_get g fl_X12_50 wm_0 rfl dX12_leave_87 ?_
          refine x_iload_n g 4 dX12_leave_90 rfl rfl ?_
          refine x_dup2 g dX12_leave_91 rfl rfl ?_
          refine x_iald g wm_14 dX12_leave_92 hf (fun hf => ?_)
          refine x_iconst g 1 dX12_leave_93 (by decide) ?_
          refine x_isub g dX12_leave_94 ?_
          refine x_iastB g wm_14 (sm_14 _ _) dX12_leave_95 hf (fun σ10 hf => ?_)
          refine x_iload g 0 dX12_leave_96 rfl ?_
          refine x_if_le_f g 112 dX12_leave_98 (by decide) (by decide) ?_
          refine x_aload_n g 3 dX12_leave_101 rfl rfl ?_
          refine x_get g fl_X12_56 wm_0 rfl dX12_leave_102 ?_
          refine x_iload_n g 2 dX12_leave_105 rfl rfl ?_
          refine x_dup2 g dX12_leave_106 rfl rfl ?_
          refine x_iald g wm_16 dX12_leave_107 hf (fun hf => ?_)
          refine x_iload g 0 dX12_leave_108 rfl ?_
          refine x_isub g dX12_leave_110 ?_
          refine x_iastB g wm_16 (sm_16 _ _) dX12_leave_111 hf (fun σ11 hf => ?_)
          refine x_aload_n g 3 dX12_leave_112 rfl rfl ?_
          refine x_get g fl_X12_68 wm_0 rfl dX12_leave_113 ?_
          refine x_aload_n g 3 dX12_leave_116 rfl rfl ?_
          refine x_get g fl_X12_191 wm_0 rfl dX12_leave_117 ?_
          refine x_iload_n g 4 dX12_leave_120 rfl rfl ?_
          refine x_iastB g wm_20 (sm_20 _ _) dX12_leave_121 hf (fun σ12 hf => ?_)
          refine x_aload_n g 3 dX12_leave_122 rfl rfl ?_
          refine x_get g fl_X12_71 wm_0 rfl dX12_leave_123 ?_
          refine x_aload_n g 3 dX12_leave_126 rfl rfl ?_
          refine x_get g fl_X12_191 wm_0 rfl dX12_leave_127 ?_
          refine x_aload_n g 3 dX12_leave_130 rfl rfl ?_
          refine x_get g fl_X12_188 wm_0 rfl dX12_leave_131 ?_
          refine x_iastB g wm_21 (sm_21 _ _) dX12_leave_134 hf (fun σ13 hf => ?_)
          refine x_aload_n g 3 dX12_leave_135 rfl rfl ?_
          refine x_get g fl_X12_74 wm_0 rfl dX12_leave_136 ?_
          refine x_aload_n g 3 dX12_leave_139 rfl rfl ?_
          refine x_get g fl_X12_191 wm_0 rfl dX12_leave_140 ?_
          refine x_iload_n g 1 dX12_leave_143 rfl rfl ?_
          refine x_if_eq_f g 151 dX12_leave_144 (by decide) (by decide) ?_
          refine x_iconst g 1 dX12_leave_147 (by decide) ?_
          refine x_goto g 152 dX12_leave_148 (by decide) ?_
          refine x_iastB g wm_22 (sm_22 _ _) dX12_leave_152 hf (fun σ14 hf => ?_)
          refine x_aload_n g 3 dX12_leave_153 rfl rfl ?_
          refine x_get g fl_X12_77 wm_0 rfl dX12_leave_154 ?_
          refine x_aload_n g 3 dX12_leave_157 rfl rfl ?_
          refine x_get g fl_X12_191 wm_0 rfl dX12_leave_158 ?_
          refine x_iload g 0 dX12_leave_161 rfl ?_
          refine x_iastB g wm_23 (sm_23 _ _) dX12_leave_163 hf (fun σ15 hf => ?_)
          refine x_aload_n g 3 dX12_leave_164 rfl rfl ?_
          refine x_dup g dX12_leave_165 rfl ?_
          refine x_get g fl_X12_191 wm_0 rfl dX12_leave_166 ?_
          refine x_iconst g 1 dX12_leave_169 (by decide) ?_
          refine x_iadd g dX12_leave_170 ?_
          refine x_putB g tyX12 fl_X12_191 tyX12_ok nmX12 wm_0 rfl rfl rfl (Nat.le_of_ble_eq_true rfl) (sm_0_25 _) dX12_leave_171 hf (fun σ16 hf => ?_)
          cases hf
          exact x_vret g rfl ho dX12_leave_174
        · refine x_aload_n g 2 dX12_leave_54 rfl rfl ?_
          refine x_get g fl_X12_56 wm_0 rfl dX12_leave_55 ?_
          refine x_iload_n g 1 dX12_leave_58 rfl rfl ?_
          refine x_iald g wm_16 dX12_leave_59 hf (fun hf => ?_)
          refine x_nami hf (fun y17 hf => ?_)
          refine x_istore (lv' := [(4, .int y17), (3, .int 1), (2, .int y1), (0, .ref (Ad 0)), (1, .int p1)]) g dX12_leave_60 (by decide) rfl ?_
          refine x_iload_n g 1 dX12_leave_62 rfl rfl ?_
          refine x_if_ne_t g 72 dX12_leave_63 (by decide) (by decide) ?_
          refine x_iload_n g 1 dX12_leave_72 rfl rfl ?_
          refine x_if_eq_f g 96 dX12_leave_73 (by decide) (by decide) ?_
          refine x_aload_n g 3 dX12_leave_76 rfl rfl ?_
          refine x_get g fl_X12_47 wm_0 rfl dX12_leave_77 ?_
          refine x_iload_n g 4 dX12_leave_80 rfl rfl ?_
          refine x_dup2 g dX12_leave_81 rfl rfl ?_
          refine x_iald g wm_13 dX12_leave_82 hf (fun hf => ?_)
          refine x_iconst g 1 dX12_leave_83 (by decide) ?_
          refine x_isub g dX12_leave_84 ?_
          refine x_iastB g wm_13 (sm_13 _ _) dX12_leave_85 hf (fun σ18 hf => ?_)
          refine x_aload_n g 3 dX12_leave_86 rfl rfl ?_
          refine x_get g fl_X12_50 wm_0 rfl dX12_leave_87 ?_
          refine x_iload_n g 4 dX12_leave_90 rfl rfl ?_
          refine x_dup2 g dX12_leave_91 rfl rfl ?_
          refine x_iald g wm_14 dX12_leave_92 hf (fun hf => ?_)
          refine x_iconst g 1 dX12_leave_93 (by decide) ?_
          refine x_isub g dX12_leave_94 ?_
          refine x_iastB g wm_14 (sm_14 _ _) dX12_leave_95 hf (fun σ19 hf => ?_)
          refine x_iload g 0 dX12_leave_96 rfl ?_
          refine x_if_le g 112 dX12_leave_98 (by decide) hf (fun c98 hf => ?_) (fun c98 hf => ?_)
          · refine x_aload_n g 3 dX12_leave_101 rfl rfl ?_
            refine x_get g fl_X12_56 wm_0 rfl dX12_leave_102 ?_
            refine x_iload_n g 2 dX12_leave_105 rfl rfl ?_
            refine x_dup2 g dX12_leave_106 rfl rfl ?_
            refine x_iald g wm_16 dX12_leave_107 hf (fun hf => ?_)
            refine x_iload g 0 dX12_leave_108 rfl ?_
            refine x_isub g dX12_leave_110 ?_
            refine x_iastB g wm_16 (sm_16 _ _) dX12_leave_111 hf (fun σ20 hf => ?_)
            refine x_aload_n g 3 dX12_leave_112 rfl rfl ?_
            refine x_get g fl_X12_68 wm_0 rfl dX12_leave_113 ?_
            refine x_aload_n g 3 dX12_leave_116 rfl rfl ?_
            refine x_get g fl_X12_191 wm_0 rfl dX12_leave_117 ?_
            refine x_iload_n g 4 dX12_leave_120 rfl rfl ?_
            refine x_iastB g wm_20 (sm_20 _ _) dX12_leave_121 hf (fun σ21 hf => ?_)
            refine x_aload_n g 3 dX12_leave_122 rfl rfl ?_
            refine x_get g fl_X12_71 wm_0 rfl dX12_leave_123 ?_
            refine x_aload_n g 3 dX12_leave_126 rfl rfl ?_
            refine x_get g fl_X12_191 wm_0 rfl dX12_leave_127 ?_
            refine x_aload_n g 3 dX12_leave_130 rfl rfl ?_
            refine x_get g fl_X12_188 wm_0 rfl dX12_leave_131 ?_
            refine x_iastB g wm_21 (sm_21 _ _) dX12_leave_134 hf (fun σ22 hf => ?_)
            refine x_aload_n g 3 dX12_leave_135 rfl rfl ?_
            refine x_get g fl_X12_74 wm_0 rfl dX12_leave_136 ?_
            refine x_aload_n g 3 dX12_leave_139 rfl rfl ?_
            refine x_get g fl_X12_191 wm_0 rfl dX12_leave_140 ?_
            refine x_iload_n g 1 dX12_leave_143 rfl rfl ?_
            refine x_if_eq_f g 151 dX12_leave_144 (by decide) (by decide) ?_
            refine x_iconst g 1 dX12_leave_147 (by decide) ?_
            refine x_goto g 152 dX12_leave_148 (by decide) ?_
            refine x_iastB g wm_22 (sm_22 _ _) dX12_leave_152 hf (fun σ23 hf => ?_)
            refine x_aload_n g 3 dX12_leave_153 rfl rfl ?_
            refine x_get g fl_X12_77 wm_0 rfl dX12_leave_154 ?_
            refine x_aload_n g 3 dX12_leave_157 rfl rfl ?_
            refine x_get g fl_X12_191 wm_0 rfl dX12_leave_158 ?_
            refine x_iload g 0 dX12_leave_161 rfl ?_
            refine x_iastB g wm_23 (sm_23 _ _) dX12_leave_163 hf (fun σ24 hf => ?_)
            refine x_aload_n g 3 dX12_leave_164 rfl rfl ?_
            refine x_dup g dX12_leave_165 rfl ?_
            refine x_get g fl_X12_191 wm_0 rfl dX12_leave_166 ?_
            refine x_iconst g 1 dX12_leave_169 (by decide) ?_
            refine x_iadd g dX12_leave_170 ?_
            refine x_putB g tyX12 fl_X12_191 tyX12_ok nmX12 wm_0 rfl rfl rfl (Nat.le_of_ble_eq_true rfl) (sm_0_25 _) dX12_leave_171 hf (fun σ25 hf => ?_)
            cases hf
            exact x_vret g rfl ho dX12_leave_174
          · refine x_aload_n g 3 dX12_leave_112 rfl rfl ?_
            refine x_get g fl_X12_68 wm_0 rfl dX12_leave_113 ?_
            refine x_aload_n g 3 dX12_leave_116 rfl rfl ?_
            refine x_get g fl_X12_191 wm_0 rfl dX12_leave_117 ?_
            refine x_iload_n g 4 dX12_leave_120 rfl rfl ?_
            refine x_iastB g wm_20 (sm_20 _ _) dX12_leave_121 hf (fun σ26 hf => ?_)
            refine x_aload_n g 3 dX12_leave_122 rfl rfl ?_
            refine x_get g fl_X12_71 wm_0 rfl dX12_leave_123 ?_
            refine x_aload_n g 3 dX12_leave_126 rfl rfl ?_
            refine x_get g fl_X12_191 wm_0 rfl dX12_leave_127 ?_
            refine x_aload_n g 3 dX12_leave_130 rfl rfl ?_
            refine x_get g fl_X12_188 wm_0 rfl dX12_leave_131 ?_
            refine x_iastB g wm_21 (sm_21 _ _) dX12_leave_134 hf (fun σ27 hf => ?_)
            refine x_aload_n g 3 dX12_leave_135 rfl rfl ?_
            refine x_get g fl_X12_74 wm_0 rfl dX12_leave_136 ?_
            refine x_aload_n g 3 dX12_leave_139 rfl rfl ?_
            refine x_get g fl_X12_191 wm_0 rfl dX12_leave_140 ?_
            refine x_iload_n g 1 dX12_leave_143 rfl rfl ?_
            refine x_if_eq_f g 151 dX12_leave_144 (by decide) (by decide) ?_
            refine x_iconst g 1 dX12_leave_147 (by decide) ?_
            refine x_goto g 152 dX12_leave_148 (by decide) ?_
            refine x_iastB g wm_22 (sm_22 _ _) dX12_leave_152 hf (fun σ28 hf => ?_)
            refine x_aload_n g 3 dX12_leave_153 rfl rfl ?_
            refine x_get g fl_X12_77 wm_0 rfl dX12_leave_154 ?_
            refine x_aload_n g 3 dX12_leave_157 rfl rfl ?_
            refine x_get g fl_X12_191 wm_0 rfl dX12_leave_158 ?_
            refine x_iload g 0 dX12_leave_161 rfl ?_
            refine x_iastB g wm_23 (sm_23 _ _) dX12_leave_163 hf (fun σ29 hf => ?_)
            refine x_aload_n g 3 dX12_leave_164 rfl rfl ?_
            refine x_dup g dX12_leave_165 rfl ?_
            refine x_get g fl_X12_191 wm_0 rfl dX12_leave_166 ?_
            refine x_iconst g 1 dX12_leave_169 (by decide) ?_
            refine x_iadd g dX12_leave_170 ?_
            refine x_putB g tyX12 fl_X12_191 tyX12_ok nmX12 wm_0 rfl rfl rfl (Nat.le_of_ble_eq_true rfl) (sm_0_25 _) dX12_leave_171 hf (fun σ30 hf => ?_)
            cases hf
            exact x_vret g rfl ho dX12_leave_174
    · refine x_iconst g 0 dX12_leave_29 (by decide) ?_
      refine x_istore_n (lv' := [(3, .int 0), (2, .int y1), (0, .ref (Ad 0)), (1, .int p1)]) g dX12_leave_30 rfl (by decide) rfl ?_
      refine x_iload_n g 1 dX12_leave_31 rfl rfl ?_
      refine x_iconst g (-1) dX12_leave_32 (by decide) ?_
      refine x_icmp_ne g 40 dX12_leave_33 (by decide) hf (fun c33 hf => ?_) (fun c33 hf => ?_)
      · refine x_iconst g 0 dX12_leave_36 (by decide) ?_
        refine x_goto g 60 dX12_leave_37 (by decide) ?_
        refine x_istore (lv' := [(4, .int 0), (3, .int 0), (2, .int y1), (0, .ref (Ad 0)), (1, .int p1)]) g dX12_leave_60 (by decide) rfl ?_
        refine x_iload_n g 1 dX12_leave_62 rfl rfl ?_
        refine x_if_ne_f g 72 dX12_leave_63 (by decide) (by decide) ?_
        refine x_iload g 0 dX12_leave_66 rfl ?_
        refine x_if_ne_f g 72 dX12_leave_68 (by decide) (by decide) ?_
        cases hf
        exact x_vret g rfl ho dX12_leave_71
      · refine x_aload_n g 2 dX12_leave_40 rfl rfl ?_
        refine x_get g fl_X12_56 wm_0 rfl dX12_leave_41 ?_
        refine x_iload_n g 1 dX12_leave_44 rfl rfl ?_
        refine x_iald g wm_16 dX12_leave_45 hf (fun hf => ?_)
        refine x_iconst g 3 dX12_leave_46 (by decide) ?_
        refine x_icmp_le g 54 dX12_leave_47 (by decide) hf (fun c47 hf => ?_) (fun c47 hf => ?_)
        · refine x_iconst g 3 dX12_leave_50 (by decide) ?_
          refine x_goto g 60 dX12_leave_51 (by decide) ?_
          refine x_istore (lv' := [(4, .int 3), (3, .int 0), (2, .int y1), (0, .ref (Ad 0)), (1, .int p1)]) g dX12_leave_60 (by decide) rfl ?_
          refine x_iload_n g 1 dX12_leave_62 rfl rfl ?_
          refine x_if_ne_f g 72 dX12_leave_63 (by decide) (by decide) ?_
          refine x_iload g 0 dX12_leave_66 rfl ?_
          refine x_if_ne_t g 72 dX12_leave_68 (by decide) (by decide) ?_
          refine x_iload_n g 1 dX12_leave_72 rfl rfl ?_
          refine x_if_eq_t g 96 dX12_leave_73 (by decide) (by decide) ?_
          refine x_iload g 0 dX12_leave_96 rfl ?_
          refine x_if_le_f g 112 dX12_leave_98 (by decide) (by decide) ?_
          refine x_aload_n g 3 dX12_leave_101 rfl rfl ?_
          refine x_get g fl_X12_56 wm_0 rfl dX12_leave_102 ?_
          refine x_iload_n g 2 dX12_leave_105 rfl rfl ?_
          refine x_dup2 g dX12_leave_106 rfl rfl ?_
          refine x_iald g wm_16 dX12_leave_107 hf (fun hf => ?_)
          refine x_iload g 0 dX12_leave_108 rfl ?_
          refine x_isub g dX12_leave_110 ?_
          refine x_iastB g wm_16 (sm_16 _ _) dX12_leave_111 hf (fun σ31 hf => ?_)
          refine x_aload_n g 3 dX12_leave_112 rfl rfl ?_
          refine x_get g fl_X12_68 wm_0 rfl dX12_leave_113 ?_
          refine x_aload_n g 3 dX12_leave_116 rfl rfl ?_
          refine x_get g fl_X12_191 wm_0 rfl dX12_leave_117 ?_
          refine x_iload_n g 4 dX12_leave_120 rfl rfl ?_
          refine x_iastB g wm_20 (sm_20 _ _) dX12_leave_121 hf (fun σ32 hf => ?_)
          refine x_aload_n g 3 dX12_leave_122 rfl rfl ?_
          refine x_get g fl_X12_71 wm_0 rfl dX12_leave_123 ?_
          refine x_aload_n g 3 dX12_leave_126 rfl rfl ?_
          refine x_get g fl_X12_191 wm_0 rfl dX12_leave_127 ?_
          refine x_aload_n g 3 dX12_leave_130 rfl rfl ?_
          refine x_get g fl_X12_188 wm_0 rfl dX12_leave_131 ?_
          refine x_iastB g wm_21 (sm_21 _ _) dX12_leave_134 hf (fun σ33 hf => ?_)
          refine x_aload_n g 3 dX12_leave_135 rfl rfl ?_
          refine x_get g fl_X12_74 wm_0 rfl dX12_leave_136 ?_
          refine x_aload_n g 3 dX12_leave_139 rfl rfl ?_
          refine x_get g fl_X12_191 wm_0 rfl dX12_leave_140 ?_
          refine x_iload_n g 1 dX12_leave_143 rfl rfl ?_
          refine x_if_eq_t g 151 dX12_leave_144 (by decide) (by decide) ?_
          refine x_iconst g 0 dX12_leave_151 (by decide) ?_
          refine x_iastB g wm_22 (sm_22 _ _) dX12_leave_152 hf (fun σ34 hf => ?_)
          refine x_aload_n g 3 dX12_leave_153 rfl rfl ?_
          refine x_get g fl_X12_77 wm_0 rfl dX12_leave_154 ?_
          refine x_aload_n g 3 dX12_leave_157 rfl rfl ?_
          refine x_get g fl_X12_191 wm_0 rfl dX12_leave_158 ?_
          refine x_iload g 0 dX12_leave_161 rfl ?_
          refine x_iastB g wm_23 (sm_23 _ _) dX12_leave_163 hf (fun σ35 hf => ?_)
          refine x_aload_n g 3 dX12_leave_164 rfl rfl ?_
          refine x_dup g dX12_leave_165 rfl ?_
          refine x_get g fl_X12_191 wm_0 rfl dX12_leave_166 ?_
          refine x_iconst g 1 dX12_leave_169 (by decide) ?_
          refine x_iadd g dX12_leave_170 ?_
          refine x_putB g tyX12 fl_X12_191 tyX12_ok nmX12 wm_0 rfl rfl rfl (Nat.le_of_ble_eq_true rfl) (sm_0_25 _) dX12_leave_171 hf (fun σ36 hf => ?_)
          cases hf
          exact x_vret g rfl ho dX12_leave_174
        · refine x_aload_n g 2 dX12_leave_54 rfl rfl ?_
          refine x_get g fl_X12_56 wm_0 rfl dX12_leave_55 ?_
          refine x_iload_n g 1 dX12_leave_58 rfl rfl ?_
          refine x_iald g wm_16 dX12_leave_59 hf (fun hf => ?_)
          refine x_nami hf (fun y37 hf => ?_)
          refine x_istore (lv' := [(4, .int y37), (3, .int 0), (2, .int y1), (0, .ref (Ad 0)), (1, .int p1)]) g dX12_leave_60 (by decide) rfl ?_
          refine x_iload_n g 1 dX12_leave_62 rfl rfl ?_
          refine x_if_ne_f g 72 dX12_leave_63 (by decide) (by decide) ?_
          refine x_iload g 0 dX12_leave_66 rfl ?_
          refine x_if_ne g 72 dX12_leave_68 (by decide) hf (fun c68 hf => ?_) (fun c68 hf => ?_)
          · cases hf
            exact x_vret g rfl ho dX12_leave_71
          · refine x_iload_n g 1 dX12_leave_72 rfl rfl ?_
            refine x_if_eq_t g 96 dX12_leave_73 (by decide) (by decide) ?_
            refine x_iload g 0 dX12_leave_96 rfl ?_
            refine x_if_le g 112 dX12_leave_98 (by decide) hf (fun c98 hf => ?_) (fun c98 hf => ?_)
            · refine x_aload_n g 3 dX12_leave_101 rfl rfl ?_
              refine x_get g fl_X12_56 wm_0 rfl dX12_leave_102 ?_
              refine x_iload_n g 2 dX12_leave_105 rfl rfl ?_
              refine x_dup2 g dX12_leave_106 rfl rfl ?_
              refine x_iald g wm_16 dX12_leave_107 hf (fun hf => ?_)
              refine x_iload g 0 dX12_leave_108 rfl ?_
              refine x_isub g dX12_leave_110 ?_
              refine x_iastB g wm_16 (sm_16 _ _) dX12_leave_111 hf (fun σ38 hf => ?_)
              refine x_aload_n g 3 dX12_leave_112 rfl rfl ?_
              refine x_get g fl_X12_68 wm_0 rfl dX12_leave_113 ?_
              refine x_aload_n g 3 dX12_leave_116 rfl rfl ?_
              refine x_get g fl_X12_191 wm_0 rfl dX12_leave_117 ?_
              refine x_iload_n g 4 dX12_leave_120 rfl rfl ?_
              refine x_iastB g wm_20 (sm_20 _ _) dX12_leave_121 hf (fun σ39 hf => ?_)
              refine x_aload_n g 3 dX12_leave_122 rfl rfl ?_
              refine x_get g fl_X12_71 wm_0 rfl dX12_leave_123 ?_
              refine x_aload_n g 3 dX12_leave_126 rfl rfl ?_
              refine x_get g fl_X12_191 wm_0 rfl dX12_leave_127 ?_
              refine x_aload_n g 3 dX12_leave_130 rfl rfl ?_
              refine x_get g fl_X12_188 wm_0 rfl dX12_leave_131 ?_
              refine x_iastB g wm_21 (sm_21 _ _) dX12_leave_134 hf (fun σ40 hf => ?_)
              refine x_aload_n g 3 dX12_leave_135 rfl rfl ?_
              refine x_get g fl_X12_74 wm_0 rfl dX12_leave_136 ?_
              refine x_aload_n g 3 dX12_leave_139 rfl rfl ?_
              refine x_get g fl_X12_191 wm_0 rfl dX12_leave_140 ?_
              refine x_iload_n g 1 dX12_leave_143 rfl rfl ?_
              refine x_if_eq_t g 151 dX12_leave_144 (by decide) (by decide) ?_
              refine x_iconst g 0 dX12_leave_151 (by decide) ?_
              refine x_iastB g wm_22 (sm_22 _ _) dX12_leave_152 hf (fun σ41 hf => ?_)
              refine x_aload_n g 3 dX12_leave_153 rfl rfl ?_
              refine x_get g fl_X12_77 wm_0 rfl dX12_leave_154 ?_
              refine x_aload_n g 3 dX12_leave_157 rfl rfl ?_
              refine x_get g fl_X12_191 wm_0 rfl dX12_leave_158 ?_
              refine x_iload g 0 dX12_leave_161 rfl ?_
              refine x_iastB g wm_23 (sm_23 _ _) dX12_leave_163 hf (fun σ42 hf => ?_)
              refine x_aload_n g 3 dX12_leave_164 rfl rfl ?_
              refine x_dup g dX12_leave_165 rfl ?_
              refine x_get g fl_X12_191 wm_0 rfl dX12_leave_166 ?_
              refine x_iconst g 1 dX12_leave_169 (by decide) ?_
              refine x_iadd g dX12_leave_170 ?_
              refine x_putB g tyX12 fl_X12_191 tyX12_ok nmX12 wm_0 rfl rfl rfl (Nat.le_of_ble_eq_true rfl) (sm_0_25 _) dX12_leave_171 hf (fun σ43 hf => ?_)
              cases hf
              exact x_vret g rfl ho dX12_leave_174
            · refine x_aload_n g 3 dX12_leave_112 rfl rfl ?_
              refine x_get g fl_X12_68 wm_0 rfl dX12_leave_113 ?_
              refine x_aload_n g 3 dX12_leave_116 rfl rfl ?_
              refine x_get g fl_X12_191 wm_0 rfl dX12_leave_117 ?_
              refine x_iload_n g 4 dX12_leave_120 rfl rfl ?_
              refine x_iastB g wm_20 (sm_20 _ _) dX12_leave_121 hf (fun σ44 hf => ?_)
              refine x_aload_n g 3 dX12_leave_122 rfl rfl ?_
              refine x_get g fl_X12_71 wm_0 rfl dX12_leave_123 ?_
              refine x_aload_n g 3 dX12_leave_126 rfl rfl ?_
              refine x_get g fl_X12_191 wm_0 rfl dX12_leave_127 ?_
              refine x_aload_n g 3 dX12_leave_130 rfl rfl ?_
              refine x_get g fl_X12_188 wm_0 rfl dX12_leave_131 ?_
              refine x_iastB g wm_21 (sm_21 _ _) dX12_leave_134 hf (fun σ45 hf => ?_)
              refine x_aload_n g 3 dX12_leave_135 rfl rfl ?_
              refine x_get g fl_X12_74 wm_0 rfl dX12_leave_136 ?_
              refine x_aload_n g 3 dX12_leave_139 rfl rfl ?_
              refine x_get g fl_X12_191 wm_0 rfl dX12_leave_140 ?_
              refine x_iload_n g 1 dX12_leave_143 rfl rfl ?_
              refine x_if_eq_t g 151 dX12_leave_144 (by decide) (by decide) ?_
              refine x_iconst g 0 dX12_leave_151 (by decide) ?_
              refine x_iastB g wm_22 (sm_22 _ _) dX12_leave_152 hf (fun σ46 hf => ?_)
              refine x_aload_n g 3 dX12_leave_153 rfl rfl ?_
              refine x_get g fl_X12_77 wm_0 rfl dX12_leave_154 ?_
              refine x_aload_n g 3 dX12_leave_157 rfl rfl ?_
              refine x_get g fl_X12_191 wm_0 rfl dX12_leave_158 ?_
              refine x_iload g 0 dX12_leave_161 rfl ?_
              refine x_iastB g wm_23 (sm_23 _ _) dX12_leave_163 hf (fun σ47 hf => ?_)
              refine x_aload_n g 3 dX12_leave_164 rfl rfl ?_
              refine x_dup g dX12_leave_165 rfl ?_
              refine x_get g fl_X12_191 wm_0 rfl dX12_leave_166 ?_
              refine x_iconst g 1 dX12_leave_169 (by decide) ?_
              refine x_iadd g dX12_leave_170 ?_
              refine x_putB g tyX12 fl_X12_191 tyX12_ok nmX12 wm_0 rfl rfl rfl (Nat.le_of_ble_eq_true rfl) (sm_0_25 _) dX12_leave_171 hf (fun σ48 hf => ?_)
              cases hf
              exact x_vret g rfl ho dX12_leave_174
  · refine x_iconst g 0 dX12_leave_29 (by decide) ?_
    refine x_istore_n (lv' := [(3, .int 0), (2, .int y1), (0, .ref (Ad 0)), (1, .int p1)]) g dX12_leave_30 rfl (by decide) rfl ?_
    refine x_iload_n g 1 dX12_leave_31 rfl rfl ?_
    refine x_iconst g (-1) dX12_leave_32 (by decide) ?_
    refine x_icmp_ne g 40 dX12_leave_33 (by decide) hf (fun c33 hf => ?_) (fun c33 hf => ?_)
    · refine x_iconst g 0 dX12_leave_36 (by decide) ?_
      refine x_goto g 60 dX12_leave_37 (by decide) ?_
      refine x_istore (lv' := [(4, .int 0), (3, .int 0), (2, .int y1), (0, .ref (Ad 0)), (1, .int p1)]) g dX12_leave_60 (by decide) rfl ?_
      refine x_iload_n g 1 dX12_leave_62 rfl rfl ?_
      refine x_if_ne_f g 72 dX12_leave_63 (by decide) (by decide) ?_
      refine x_iload g 0 dX12_leave_66 rfl ?_
      refine x_if_ne_f g 72 dX12_leave_68 (by decide) (by decide) ?_
      cases hf
      exact x_vret g rfl ho dX12_leave_71
    · refine x_aload_n g 2 dX12_leave_40 rfl rfl ?_
      refine x_get g fl_X12_56 wm_0 rfl dX12_leave_41 ?_
      refine x_iload_n g 1 dX12_leave_44 rfl rfl ?_
      refine x_iald g wm_16 dX12_leave_45 hf (fun hf => ?_)
      refine x_iconst g 3 dX12_leave_46 (by decide) ?_
      refine x_icmp_le g 54 dX12_leave_47 (by decide) hf (fun c47 hf => ?_) (fun c47 hf => ?_)
      · refine x_iconst g 3 dX12_leave_50 (by decide) ?_
        refine x_goto g 60 dX12_leave_51 (by decide) ?_
        refine x_istore (lv' := [(4, .int 3), (3, .int 0), (2, .int y1), (0, .ref (Ad 0)), (1, .int p1)]) g dX12_leave_60 (by decide) rfl ?_
        refine x_iload_n g 1 dX12_leave_62 rfl rfl ?_
        refine x_if_ne_f g 72 dX12_leave_63 (by decide) (by decide) ?_
        refine x_iload g 0 dX12_leave_66 rfl ?_
        refine x_if_ne_t g 72 dX12_leave_68 (by decide) (by decide) ?_
        refine x_iload_n g 1 dX12_leave_72 rfl rfl ?_
        refine x_if_eq_t g 96 dX12_leave_73 (by decide) (by decide) ?_
        refine x_iload g 0 dX12_leave_96 rfl ?_
        refine x_if_le_f g 112 dX12_leave_98 (by decide) (by decide) ?_
        refine x_aload_n g 3 dX12_leave_101 rfl rfl ?_
        refine x_get g fl_X12_56 wm_0 rfl dX12_leave_102 ?_
        refine x_iload_n g 2 dX12_leave_105 rfl rfl ?_
        refine x_dup2 g dX12_leave_106 rfl rfl ?_
        refine x_iald g wm_16 dX12_leave_107 hf (fun hf => ?_)
        refine x_iload g 0 dX12_leave_108 rfl ?_
        refine x_isub g dX12_leave_110 ?_
        refine x_iastB g wm_16 (sm_16 _ _) dX12_leave_111 hf (fun σ49 hf => ?_)
        refine x_aload_n g 3 dX12_leave_112 rfl rfl ?_
        refine x_get g fl_X12_68 wm_0 rfl dX12_leave_113 ?_
        refine x_aload_n g 3 dX12_leave_116 rfl rfl ?_
        refine x_get g fl_X12_191 wm_0 rfl dX12_leave_117 ?_
        refine x_iload_n g 4 dX12_leave_120 rfl rfl ?_
        refine x_iastB g wm_20 (sm_20 _ _) dX12_leave_121 hf (fun σ50 hf => ?_)
        refine x_aload_n g 3 dX12_leave_122 rfl rfl ?_
        refine x_get g fl_X12_71 wm_0 rfl dX12_leave_123 ?_
        refine x_aload_n g 3 dX12_leave_126 rfl rfl ?_
        refine x_get g fl_X12_191 wm_0 rfl dX12_leave_127 ?_
        refine x_aload_n g 3 dX12_leave_130 rfl rfl ?_
        refine x_get g fl_X12_188 wm_0 rfl dX12_leave_131 ?_
        refine x_iastB g wm_21 (sm_21 _ _) dX12_leave_134 hf (fun σ51 hf => ?_)
        refine x_aload_n g 3 dX12_leave_135 rfl rfl ?_
        refine x_get g fl_X12_74 wm_0 rfl dX12_leave_136 ?_
        refine x_aload_n g 3 dX12_leave_139 rfl rfl ?_
        refine x_get g fl_X12_191 wm_0 rfl dX12_leave_140 ?_
        refine x_iload_n g 1 dX12_leave_143 rfl rfl ?_
        refine x_if_eq_t g 151 dX12_leave_144 (by decide) (by decide) ?_
        refine x_iconst g 0 dX12_leave_151 (by decide) ?_
        refine x_iastB g wm_22 (sm_22 _ _) dX12_leave_152 hf (fun σ52 hf => ?_)
        refine x_aload_n g 3 dX12_leave_153 rfl rfl ?_
        refine x_get g fl_X12_77 wm_0 rfl dX12_leave_154 ?_
        refine x_aload_n g 3 dX12_leave_157 rfl rfl ?_
        refine x_get g fl_X12_191 wm_0 rfl dX12_leave_158 ?_
        refine x_iload g 0 dX12_leave_161 rfl ?_
        refine x_iastB g wm_23 (sm_23 _ _) dX12_leave_163 hf (fun σ53 hf => ?_)
        refine x_aload_n g 3 dX12_leave_164 rfl rfl ?_
        refine x_dup g dX12_leave_165 rfl ?_
        refine x_get g fl_X12_191 wm_0 rfl dX12_leave_166 ?_
        refine x_iconst g 1 dX12_leave_169 (by decide) ?_
        refine x_iadd g dX12_leave_170 ?_
        refine x_putB g tyX12 fl_X12_191 tyX12_ok nmX12 wm_0 rfl rfl rfl (Nat.le_of_ble_eq_true rfl) (sm_0_25 _) dX12_leave_171 hf (fun σ54 hf => ?_)
        cases hf
        exact x_vret g rfl ho dX12_leave_174
      · refine x_aload_n g 2 dX12_leave_54 rfl rfl ?_
        refine x_get g fl_X12_56 wm_0 rfl dX12_leave_55 ?_
        refine x_iload_n g 1 dX12_leave_58 rfl rfl ?_
        refine x_iald g wm_16 dX12_leave_59 hf (fun hf => ?_)
        refine x_nami hf (fun y55 hf => ?_)
        refine x_istore (lv' := [(4, .int y55), (3, .int 0), (2, .int y1), (0, .ref (Ad 0)), (1, .int p1)]) g dX12_leave_60 (by decide) rfl ?_
        refine x_iload_n g 1 dX12_leave_62 rfl rfl ?_
        refine x_if_ne_f g 72 dX12_leave_63 (by decide) (by decide) ?_
        refine x_iload g 0 dX12_leave_66 rfl ?_
        refine x_if_ne g 72 dX12_leave_68 (by decide) hf (fun c68 hf => ?_) (fun c68 hf => ?_)
        · cases hf
          exact x_vret g rfl ho dX12_leave_71
        · refine x_iload_n g 1 dX12_leave_72 rfl rfl ?_
          refine x_if_eq_t g 96 dX12_leave_73 (by decide) (by decide) ?_
          refine x_iload g 0 dX12_leave_96 rfl ?_
          refine x_if_le g 112 dX12_leave_98 (by decide) hf (fun c98 hf => ?_) (fun c98 hf => ?_)
          · refine x_aload_n g 3 dX12_leave_101 rfl rfl ?_
            refine x_get g fl_X12_56 wm_0 rfl dX12_leave_102 ?_
            refine x_iload_n g 2 dX12_leave_105 rfl rfl ?_
            refine x_dup2 g dX12_leave_106 rfl rfl ?_
            refine x_iald g wm_16 dX12_leave_107 hf (fun hf => ?_)
            refine x_iload g 0 dX12_leave_108 rfl ?_
            refine x_isub g dX12_leave_110 ?_
            refine x_iastB g wm_16 (sm_16 _ _) dX12_leave_111 hf (fun σ56 hf => ?_)
            refine x_aload_n g 3 dX12_leave_112 rfl rfl ?_
            refine x_get g fl_X12_68 wm_0 rfl dX12_leave_113 ?_
            refine x_aload_n g 3 dX12_leave_116 rfl rfl ?_
            refine x_get g fl_X12_191 wm_0 rfl dX12_leave_117 ?_
            refine x_iload_n g 4 dX12_leave_120 rfl rfl ?_
            refine x_iastB g wm_20 (sm_20 _ _) dX12_leave_121 hf (fun σ57 hf => ?_)
            refine x_aload_n g 3 dX12_leave_122 rfl rfl ?_
            refine x_get g fl_X12_71 wm_0 rfl dX12_leave_123 ?_
            refine x_aload_n g 3 dX12_leave_126 rfl rfl ?_
            refine x_get g fl_X12_191 wm_0 rfl dX12_leave_127 ?_
            refine x_aload_n g 3 dX12_leave_130 rfl rfl ?_
            refine x_get g fl_X12_188 wm_0 rfl dX12_leave_131 ?_
            refine x_iastB g wm_21 (sm_21 _ _) dX12_leave_134 hf (fun σ58 hf => ?_)
            refine x_aload_n g 3 dX12_leave_135 rfl rfl ?_
            refine x_get g fl_X12_74 wm_0 rfl dX12_leave_136 ?_
            refine x_aload_n g 3 dX12_leave_139 rfl rfl ?_
            refine x_get g fl_X12_191 wm_0 rfl dX12_leave_140 ?_
            refine x_iload_n g 1 dX12_leave_143 rfl rfl ?_
            refine x_if_eq_t g 151 dX12_leave_144 (by decide) (by decide) ?_
            refine x_iconst g 0 dX12_leave_151 (by decide) ?_
            refine x_iastB g wm_22 (sm_22 _ _) dX12_leave_152 hf (fun σ59 hf => ?_)
            refine x_aload_n g 3 dX12_leave_153 rfl rfl ?_
            refine x_get g fl_X12_77 wm_0 rfl dX12_leave_154 ?_
            refine x_aload_n g 3 dX12_leave_157 rfl rfl ?_
            refine x_get g fl_X12_191 wm_0 rfl dX12_leave_158 ?_
            refine x_iload g 0 dX12_leave_161 rfl ?_
            refine x_iastB g wm_23 (sm_23 _ _) dX12_leave_163 hf (fun σ60 hf => ?_)
            refine x_aload_n g 3 dX12_leave_164 rfl rfl ?_
            refine x_dup g dX12_leave_165 rfl ?_
            refine x_get g fl_X12_191 wm_0 rfl dX12_leave_166 ?_
            refine x_iconst g 1 dX12_leave_169 (by decide) ?_
            refine x_iadd g dX12_leave_170 ?_
            refine x_putB g tyX12 fl_X12_191 tyX12_ok nmX12 wm_0 rfl rfl rfl (Nat.le_of_ble_eq_true rfl) (sm_0_25 _) dX12_leave_171 hf (fun σ61 hf => ?_)
            cases hf
            exact x_vret g rfl ho dX12_leave_174
          · refine x_aload_n g 3 dX12_leave_112 rfl rfl ?_
            refine x_get g fl_X12_68 wm_0 rfl dX12_leave_113 ?_
            refine x_aload_n g 3 dX12_leave_116 rfl rfl ?_
            refine x_get g fl_X12_191 wm_0 rfl dX12_leave_117 ?_
            refine x_iload_n g 4 dX12_leave_120 rfl rfl ?_
            refine x_iastB g wm_20 (sm_20 _ _) dX12_leave_121 hf (fun σ62 hf => ?_)
            refine x_aload_n g 3 dX12_leave_122 rfl rfl ?_
            refine x_get g fl_X12_71 wm_0 rfl dX12_leave_123 ?_
            refine x_aload_n g 3 dX12_leave_126 rfl rfl ?_
            refine x_get g fl_X12_191 wm_0 rfl dX12_leave_127 ?_
            refine x_aload_n g 3 dX12_leave_130 rfl rfl ?_
            refine x_get g fl_X12_188 wm_0 rfl dX12_leave_131 ?_
            refine x_iastB g wm_21 (sm_21 _ _) dX12_leave_134 hf (fun σ63 hf => ?_)
            refine x_aload_n g 3 dX12_leave_135 rfl rfl ?_
            refine x_get g fl_X12_74 wm_0 rfl dX12_leave_136 ?_
            refine x_aload_n g 3 dX12_leave_139 rfl rfl ?_
            refine x_get g fl_X12_191 wm_0 rfl dX12_leave_140 ?_
            refine x_iload_n g 1 dX12_leave_143 rfl rfl ?_
            refine x_if_eq_t g 151 dX12_leave_144 (by decide) (by decide) ?_
            refine x_iconst g 0 dX12_leave_151 (by decide) ?_
            refine x_iastB g wm_22 (sm_22 _ _) dX12_leave_152 hf (fun σ64 hf => ?_)
            refine x_aload_n g 3 dX12_leave_153 rfl rfl ?_
            refine x_get g fl_X12_77 wm_0 rfl dX12_leave_154 ?_
            refine x_aload_n g 3 dX12_leave_157 rfl rfl ?_
            refine x_get g fl_X12_191 wm_0 rfl dX12_leave_158 ?_
            refine x_iload g 0 dX12_leave_161 rfl ?_
            refine x_iastB g wm_23 (sm_23 _ _) dX12_leave_163 hf (fun σ65 hf => ?_)
            refine x_aload_n g 3 dX12_leave_164 rfl rfl ?_
            refine x_dup g dX12_leave_165 rfl ?_
            refine x_get g fl_X12_191 wm_0 rfl dX12_leave_166 ?_
            refine x_iconst g 1 dX12_leave_169 (by decide) ?_
            refine x_iadd g dX12_leave_170 ?_
            refine x_putB g tyX12 fl_X12_191 tyX12_ok nmX12 wm_0 rfl rfl rfl (Nat.le_of_ble_eq_true rfl) (sm_0_25 _) dX12_leave_171 hf (fun σ66 hf => ?_)
            cases hf
            exact x_vret g rfl ho dX12_leave_174
/-! SlotChipModel.linkOf(I)I -/
def f_X12_linkOf (σ : St) (p1 : Int32) : Option Int32 :=
  chk (inb p1 96) (
    chk (inb p1 96) (
      chk (inb (((8 * (σ.1 26 0 (Int32.toNatClampNeg p1))) + (σ.1 0 0 3)) - (σ.1 27 0 (Int32.toNatClampNeg p1))) 64) (
        some (σ.1 16 0 (Int32.toNatClampNeg (((8 * (σ.1 26 0 (Int32.toNatClampNeg p1))) + (σ.1 0 0 3)) - (σ.1 27 0 (Int32.toNatClampNeg p1))))))))
set_option maxHeartbeats 4000000 in
set_option maxRecDepth 100000 in
theorem c_X12_linkOf {l : Launch} {D : va_G} {cy : Nat → ClassId} {Ad : Nat → Nat} (hA : AdOK 37 Ad) {σ : St} {p1 : Int32} {o : Int32} (hf : f_X12_linkOf σ p1 = some o) : CT l (wM cy Ad) D cy (AdA 37 Ad) yX12_linkOf cX12_linkOf 2 (some .int) 0 [.ref (Ad 0), .int p1] σ (σ, (some (.int o))) := by
  refine CT.of mf_X12_linkOf (wM_D hA) (Nat.le_of_ble_eq_true rfl) ?_
  intro E xl g
  have ho : ((σ, (some (.int o))) : St × Option Value) = (σ, (some (.int o))) := rfl
  unfold f_X12_linkOf at hf
  show XJ E (wM cy Ad σ) 0 [(0, .ref (Ad 0)), (1, .int p1)] []
  refine x_aload_n g 0 dX12_linkOf_0 rfl rfl ?_
  refine x_get g fl_X12_41 wm_0 rfl dX12_linkOf_1 ?_
  refine x_bipush g 8 dX12_linkOf_4 (by decide) ?_
  refine x_aload_n g 0 dX12_linkOf_6 rfl rfl ?_
  refine x_get g fl_X12_68 wm_0 rfl dX12_linkOf_7 ?_
  refine x_iload_n g 1 dX12_linkOf_10 rfl rfl ?_
  refine x_iald g wm_20 dX12_linkOf_11 hf (fun hf => ?_)
  refine x_imul g dX12_linkOf_12 ?_
  refine x_aload_n g 0 dX12_linkOf_13 rfl rfl ?_
  refine x_get g fl_X12_188 wm_0 rfl dX12_linkOf_14 ?_
  refine x_iadd g dX12_linkOf_17 ?_
  refine x_aload_n g 0 dX12_linkOf_18 rfl rfl ?_
  refine x_get g fl_X12_71 wm_0 rfl dX12_linkOf_19 ?_
  refine x_iload_n g 1 dX12_linkOf_22 rfl rfl ?_
  refine x_iald g wm_21 dX12_linkOf_23 hf (fun hf => ?_)
  refine x_isub g dX12_linkOf_24 ?_
  refine x_iald g wm_11 dX12_linkOf_25 hf (fun hf => ?_)
  cases hf
  exact x_iret g rfl ho dX12_linkOf_26
/-! SlotChipModel.goesOn(I)I -/
def f_X12_goesOn_L9b (σ : St) (v1 : Int32) (K9 : Int32 → Int32 → Option Int32) (v2 : Int32) (v3 : Int32) : Option Int32 :=
  if 0 ≤ v3 then
    (if v2 = (-1) then
      (chk (inb v3 12) (
        if (σ.1 48 0 (Int32.toNatClampNeg v3)) = v1 then
          K9 v3 (v3 + (-1))
        else
          K9 v2 (v3 + (-1))))
    else
      (chk (inb v3 12) (
        if (σ.1 33 0 (Int32.toNatClampNeg v3)) = 0 then
          (chk (inb v2 12) (
            if (σ.1 33 0 (Int32.toNatClampNeg v2)) = 0 then
              (chk (inb v3 12) (
                if (σ.1 48 0 (Int32.toNatClampNeg v3)) = v1 then
                  K9 v3 (v3 + (-1))
                else
                  K9 v2 (v3 + (-1))))
            else
              (chk (inb v3 12) (
                if (σ.1 48 0 (Int32.toNatClampNeg v3)) = v1 then
                  K9 v2 (v3 + (-1))
                else
                  K9 v2 (v3 + (-1))))))
        else
          (chk (inb v3 12) (
            if (σ.1 48 0 (Int32.toNatClampNeg v3)) = v1 then
              K9 v3 (v3 + (-1))
            else
              K9 v2 (v3 + (-1)))))))
  else
    some v2
def f_X12_goesOn_L9 (σ : St) (v1 : Int32) : Nat → Int32 → Int32 → Option Int32
  | 0 => fun _ _ => none
  | n + 1 => f_X12_goesOn_L9b σ v1 (f_X12_goesOn_L9 σ v1 n)
def f_X12_goesOn (σ : St) (p1 : Int32) : Option Int32 :=
  f_X12_goesOn_L9 σ p1 FU (-1) ((σ.1 0 0 30) - 1)
set_option maxHeartbeats 4000000 in
set_option maxRecDepth 100000 in
theorem l_X12_goesOn_L9 {E : EV} {l : Launch} {D : va_G} {cy : Nat → ClassId} {Ad : Nat → Nat} {out : St × Option Value} {o : Int32} (hA : AdOK 37 Ad) (xl : XL E l D (AdA 37 Ad)) (g : XG E (wM cy Ad) cy cX12_goesOn RX12 5 0 (some .int) out) (σ : St) (v1 : Int32) (ho : out = (σ, (some (.int o)))) : ∀ (n : Nat) (v2 : Int32) (v3 : Int32), f_X12_goesOn_L9 σ v1 n v2 v3 = some o → XJ E (wM cy Ad σ) 9 [(0, .ref (Ad 0)), (1, .int v1), (2, .int v2), (3, .int v3)] [] := by
  intro n
  induction n with
  | zero => intro _ _ hf; cases hf
  | succ n ih9 =>
    intro v2 v3 hf
    replace hf : f_X12_goesOn_L9b σ v1 (f_X12_goesOn_L9 σ v1 n) v2 v3 = some o := hf
    unfold f_X12_goesOn_L9b at hf
    refine x_iload_n g 3 dX12_goesOn_9 rfl rfl ?_
    refine x_if_lt g 70 dX12_goesOn_10 (by decide) hf (fun c10 hf => ?_) (fun c10 hf => ?_)
    · refine x_iload_n g 2 dX12_goesOn_13 rfl rfl ?_
      refine x_iconst g (-1) dX12_goesOn_14 (by decide) ?_
      refine x_icmp_eq g 36 dX12_goesOn_15 (by decide) hf (fun c15 hf => ?_) (fun c15 hf => ?_)
      · refine x_iconst g 1 dX12_goesOn_36 (by decide) ?_
        refine x_goto g 41 dX12_goesOn_37 (by decide) ?_
        refine x_istore (lv' := [(4, .int 1), (0, .ref (Ad 0)), (1, .int v1), (2, .int v2), (3, .int v3)]) g dX12_goesOn_41 (by decide) rfl ?_
        refine x_aload_n g 1 dX12_goesOn_43 rfl rfl ?_
        refine x_get g fl_X12_113 wm_0 rfl dX12_goesOn_44 ?_
        refine x_iload_n g 4 dX12_goesOn_47 rfl rfl ?_
        refine x_iald g wm_35 dX12_goesOn_48 hf (fun hf => ?_)
        refine x_iload_n g 2 dX12_goesOn_49 rfl rfl ?_
        refine x_icmp_ne g 62 dX12_goesOn_50 (by decide) hf (fun c50 hf => ?_) (fun c50 hf => ?_)
        · refine x_iload g 0 dX12_goesOn_53 rfl ?_
          refine x_if_eq_f g 62 dX12_goesOn_55 (by decide) (by decide) ?_
          refine x_iload_n g 4 dX12_goesOn_58 rfl rfl ?_
          refine x_goto g 63 dX12_goesOn_59 (by decide) ?_
          refine x_istore_n (lv' := [(2, .int v3), (4, .int 1), (0, .ref (Ad 0)), (1, .int v1), (3, .int v3)]) g dX12_goesOn_63 rfl (by decide) rfl ?_
          refine x_iinc g 4 (v3 + (-1)) (lv' := [(3, .int (v3 + (-1))), (2, .int v3), (4, .int 1), (0, .ref (Ad 0)), (1, .int v1)]) dX12_goesOn_64 rfl (by rfl) (by decide) rfl ?_
          refine x_goto g 9 dX12_goesOn_67 (by decide) ?_
          exact x_sub [3, 4, 1, 0] rfl (ih9 _ _ hf)
        · refine x_iload_n g 3 dX12_goesOn_62 rfl rfl ?_
          refine x_istore_n (lv' := [(2, .int v2), (4, .int 1), (0, .ref (Ad 0)), (1, .int v1), (3, .int v3)]) g dX12_goesOn_63 rfl (by decide) rfl ?_
          refine x_iinc g 4 (v3 + (-1)) (lv' := [(3, .int (v3 + (-1))), (2, .int v2), (4, .int 1), (0, .ref (Ad 0)), (1, .int v1)]) dX12_goesOn_64 rfl (by rfl) (by decide) rfl ?_
          refine x_goto g 9 dX12_goesOn_67 (by decide) ?_
          exact x_sub [3, 4, 1, 0] rfl (ih9 _ _ hf)
      · refine x_aload_n g 0 dX12_goesOn_18 rfl rfl ?_
        refine x_get g fl_X12_86 wm_0 rfl dX12_goesOn_19 ?_
        refine x_iload_n g 3 dX12_goesOn_22 rfl rfl ?_
        refine x_zald g wm_26 dX12_goesOn_23 hf (fun hf => ?_)
        refine x_if_ne g 36 dX12_goesOn_24 (by decide) hf (fun c24 hf => ?_) (fun c24 hf => ?_)
        · refine x_aload_n g 0 dX12_goesOn_27 rfl rfl ?_
          refine x_get g fl_X12_86 wm_0 rfl dX12_goesOn_28 ?_
          refine x_iload_n g 2 dX12_goesOn_31 rfl rfl ?_
          refine x_zald g wm_26 dX12_goesOn_32 hf (fun hf => ?_)
          refine x_if_ne g 40 dX12_goesOn_33 (by decide) hf (fun c33 hf => ?_) (fun c33 hf => ?_)
          · refine x_iconst g 1 dX12_goesOn_36 (by decide) ?_
            refine x_goto g 41 dX12_goesOn_37 (by decide) ?_
            refine x_istore (lv' := [(4, .int 1), (0, .ref (Ad 0)), (1, .int v1), (2, .int v2), (3, .int v3)]) g dX12_goesOn_41 (by decide) rfl ?_
            refine x_aload_n g 1 dX12_goesOn_43 rfl rfl ?_
            refine x_get g fl_X12_113 wm_0 rfl dX12_goesOn_44 ?_
            refine x_iload_n g 4 dX12_goesOn_47 rfl rfl ?_
            refine x_iald g wm_35 dX12_goesOn_48 hf (fun hf => ?_)
            refine x_iload_n g 2 dX12_goesOn_49 rfl rfl ?_
            refine x_icmp_ne g 62 dX12_goesOn_50 (by decide) hf (fun c50 hf => ?_) (fun c50 hf => ?_)
            · refine x_iload g 0 dX12_goesOn_53 rfl ?_
              refine x_if_eq_f g 62 dX12_goesOn_55 (by decide) (by decide) ?_
              refine x_iload_n g 4 dX12_goesOn_58 rfl rfl ?_
              refine x_goto g 63 dX12_goesOn_59 (by decide) ?_
              refine x_istore_n (lv' := [(2, .int v3), (4, .int 1), (0, .ref (Ad 0)), (1, .int v1), (3, .int v3)]) g dX12_goesOn_63 rfl (by decide) rfl ?_
              refine x_iinc g 4 (v3 + (-1)) (lv' := [(3, .int (v3 + (-1))), (2, .int v3), (4, .int 1), (0, .ref (Ad 0)), (1, .int v1)]) dX12_goesOn_64 rfl (by rfl) (by decide) rfl ?_
              refine x_goto g 9 dX12_goesOn_67 (by decide) ?_
              exact x_sub [3, 4, 1, 0] rfl (ih9 _ _ hf)
            · refine x_iload_n g 3 dX12_goesOn_62 rfl rfl ?_
              refine x_istore_n (lv' := [(2, .int v2), (4, .int 1), (0, .ref (Ad 0)), (1, .int v1), (3, .int v3)]) g dX12_goesOn_63 rfl (by decide) rfl ?_
              refine x_iinc g 4 (v3 + (-1)) (lv' := [(3, .int (v3 + (-1))), (2, .int v2), (4, .int 1), (0, .ref (Ad 0)), (1, .int v1)]) dX12_goesOn_64 rfl (by rfl) (by decide) rfl ?_
              refine x_goto g 9 dX12_goesOn_67 (by decide) ?_
              exact x_sub [3, 4, 1, 0] rfl (ih9 _ _ hf)
          · refine x_iconst g 0 dX12_goesOn_40 (by decide) ?_
            refine x_istore (lv' := [(4, .int 0), (0, .ref (Ad 0)), (1, .int v1), (2, .int v2), (3, .int v3)]) g dX12_goesOn_41 (by decide) rfl ?_
            refine x_aload_n g 1 dX12_goesOn_43 rfl rfl ?_
            refine x_get g fl_X12_113 wm_0 rfl dX12_goesOn_44 ?_
            refine x_iload_n g 4 dX12_goesOn_47 rfl rfl ?_
            refine x_iald g wm_35 dX12_goesOn_48 hf (fun hf => ?_)
            refine x_iload_n g 2 dX12_goesOn_49 rfl rfl ?_
            refine x_icmp_ne g 62 dX12_goesOn_50 (by decide) hf (fun c50 hf => ?_) (fun c50 hf => ?_)
            · refine x_iload g 0 dX12_goesOn_53 rfl ?_
              refine x_if_eq_t g 62 dX12_goesOn_55 (by decide) (by decide) ?_
              refine x_iload_n g 3 dX12_goesOn_62 rfl rfl ?_
              refine x_istore_n (lv' := [(2, .int v2), (4, .int 0), (0, .ref (Ad 0)), (1, .int v1), (3, .int v3)]) g dX12_goesOn_63 rfl (by decide) rfl ?_
              refine x_iinc g 4 (v3 + (-1)) (lv' := [(3, .int (v3 + (-1))), (2, .int v2), (4, .int 0), (0, .ref (Ad 0)), (1, .int v1)]) dX12_goesOn_64 rfl (by rfl) (by decide) rfl ?_
              refine x_goto g 9 dX12_goesOn_67 (by decide) ?_
              exact x_sub [3, 4, 1, 0] rfl (ih9 _ _ hf)
            · refine x_iload_n g 3 dX12_goesOn_62 rfl rfl ?_
              refine x_istore_n (lv' := [(2, .int v2), (4, .int 0), (0, .ref (Ad 0)), (1, .int v1), (3, .int v3)]) g dX12_goesOn_63 rfl (by decide) rfl ?_
              refine x_iinc g 4 (v3 + (-1)) (lv' := [(3, .int (v3 + (-1))), (2, .int v2), (4, .int 0), (0, .ref (Ad 0)), (1, .int v1)]) dX12_goesOn_64 rfl (by rfl) (by decide) rfl ?_
              refine x_goto g 9 dX12_goesOn_67 (by decide) ?_
              exact x_sub [3, 4, 1, 0] rfl (ih9 _ _ hf)
        · refine x_iconst g 1 dX12_goesOn_36 (by decide) ?_
          refine x_goto g 41 dX12_goesOn_37 (by decide) ?_
          refine x_istore (lv' := [(4, .int 1), (0, .ref (Ad 0)), (1, .int v1), (2, .int v2), (3, .int v3)]) g dX12_goesOn_41 (by decide) rfl ?_
          refine x_aload_n g 1 dX12_goesOn_43 rfl rfl ?_
          refine x_get g fl_X12_113 wm_0 rfl dX12_goesOn_44 ?_
          refine x_iload_n g 4 dX12_goesOn_47 rfl rfl ?_
          refine x_iald g wm_35 dX12_goesOn_48 hf (fun hf => ?_)
          refine x_iload_n g 2 dX12_goesOn_49 rfl rfl ?_
          refine x_icmp_ne g 62 dX12_goesOn_50 (by decide) hf (fun c50 hf => ?_) (fun c50 hf => ?_)
          · refine x_iload g 0 dX12_goesOn_53 rfl ?_
            refine x_if_eq_f g 62 dX12_goesOn_55 (by decide) (by decide) ?_
            refine x_iload_n g 4 dX12_goesOn_58 rfl rfl ?_
            refine x_goto g 63 dX12_goesOn_59 (by decide) ?_
            refine x_istore_n (lv' := [(2, .int v3), (4, .int 1), (0, .ref (Ad 0)), (1, .int v1), (3, .int v3)]) g dX12_goesOn_63 rfl (by decide) rfl ?_
            refine x_iinc g 4 (v3 + (-1)) (lv' := [(3, .int (v3 + (-1))), (2, .int v3), (4, .int 1), (0, .ref (Ad 0)), (1, .int v1)]) dX12_goesOn_64 rfl (by rfl) (by decide) rfl ?_
            refine x_goto g 9 dX12_goesOn_67 (by decide) ?_
            exact x_sub [3, 4, 1, 0] rfl (ih9 _ _ hf)
          · refine x_iload_n g 3 dX12_goesOn_62 rfl rfl ?_
            refine x_istore_n (lv' := [(2, .int v2), (4, .int 1), (0, .ref (Ad 0)), (1, .int v1), (3, .int v3)]) g dX12_goesOn_63 rfl (by decide) rfl ?_
            refine x_iinc g 4 (v3 + (-1)) (lv' := [(3, .int (v3 + (-1))), (2, .int v2), (4, .int 1), (0, .ref (Ad 0)), (1, .int v1)]) dX12_goesOn_64 rfl (by rfl) (by decide) rfl ?_
            refine x_goto g 9 dX12_goesOn_67 (by decide) ?_
            exact x_sub [3, 4, 1, 0] rfl (ih9 _ _ hf)
    · refine x_iload_n g 2 dX12_goesOn_70 rfl rfl ?_
      cases hf
      exact x_iret g rfl ho dX12_goesOn_71
set_option maxHeartbeats 4000000 in
set_option maxRecDepth 100000 in
theorem c_X12_goesOn {l : Launch} {D : va_G} {cy : Nat → ClassId} {Ad : Nat → Nat} (hA : AdOK 37 Ad) {σ : St} {p1 : Int32} {o : Int32} (hf : f_X12_goesOn σ p1 = some o) : CT l (wM cy Ad) D cy (AdA 37 Ad) yX12_goesOn cX12_goesOn 5 (some .int) 0 [.ref (Ad 0), .int p1] σ (σ, (some (.int o))) := by
  refine CT.of mf_X12_goesOn (wM_D hA) (Nat.le_of_ble_eq_true rfl) ?_
  intro E xl g
  have ho : ((σ, (some (.int o))) : St × Option Value) = (σ, (some (.int o))) := rfl
  unfold f_X12_goesOn at hf
  show XJ E (wM cy Ad σ) 0 [(0, .ref (Ad 0)), (1, .int p1)] []
  refine x_iconst g (-1) dX12_goesOn_0 (by decide) ?_
  refine x_istore_n (lv' := [(2, .int (-1)), (0, .ref (Ad 0)), (1, .int p1)]) g dX12_goesOn_1 rfl (by decide) rfl ?_
  refine x_aload_n g 1 dX12_goesOn_2 rfl rfl ?_
  refine x_get g fl_X12_194 wm_0 rfl dX12_goesOn_3 ?_
  refine x_iconst g 1 dX12_goesOn_6 (by decide) ?_
  refine x_isub g dX12_goesOn_7 ?_
  refine x_istore_n (lv' := [(3, .int ((σ.1 0 0 30) - 1)), (2, .int (-1)), (0, .ref (Ad 0)), (1, .int p1)]) g dX12_goesOn_8 rfl (by decide) rfl ?_
  exact x_sub [2, 3, 1, 0] rfl (l_X12_goesOn_L9 hA xl g _ _ ho FU _ _ hf)
/-! SlotChipModel.isLetterOn(I)Z -/
def f_X12_isLetterOn_L4b (σ : St) (v1 : Int32) (K4 : Int32 → Int32 → Option Int32) (v2 : Int32) (v3 : Int32) : Option Int32 :=
  if v3 < (σ.1 0 0 25) then
    (if v2 = 0 then
      ((f_X12_linkOf σ v3).bind fun r1 =>
      if r1 = v1 then
        K4 1 (v3 + 1)
      else
        K4 0 (v3 + 1))
    else
      K4 1 (v3 + 1))
  else
    chk (isZ v2) (some v2)
def f_X12_isLetterOn_L4 (σ : St) (v1 : Int32) : Nat → Int32 → Int32 → Option Int32
  | 0 => fun _ _ => none
  | n + 1 => f_X12_isLetterOn_L4b σ v1 (f_X12_isLetterOn_L4 σ v1 n)
def f_X12_isLetterOn (σ : St) (p1 : Int32) : Option Int32 :=
  f_X12_isLetterOn_L4 σ p1 FU 0 0
set_option maxHeartbeats 4000000 in
set_option maxRecDepth 100000 in
theorem l_X12_isLetterOn_L4 {E : EV} {l : Launch} {D : va_G} {cy : Nat → ClassId} {Ad : Nat → Nat} {out : St × Option Value} {o : Int32} (hA : AdOK 37 Ad) (xl : XL E l D (AdA 37 Ad)) (g : XG E (wM cy Ad) cy cX12_isLetterOn RX12 4 1 (some .boolean) out) (σ : St) (v1 : Int32) (ho : out = (σ, (some (.int o)))) : ∀ (n : Nat) (v2 : Int32) (v3 : Int32), f_X12_isLetterOn_L4 σ v1 n v2 v3 = some o → XJ E (wM cy Ad σ) 4 [(0, .ref (Ad 0)), (1, .int v1), (2, .int v2), (3, .int v3)] [] := by
  intro n
  induction n with
  | zero => intro _ _ hf; cases hf
  | succ n ih4 =>
    intro v2 v3 hf
    replace hf : f_X12_isLetterOn_L4b σ v1 (f_X12_isLetterOn_L4 σ v1 n) v2 v3 = some o := hf
    unfold f_X12_isLetterOn_L4b at hf
    refine x_iload_n g 3 dX12_isLetterOn_4 rfl rfl ?_
    refine x_aload_n g 0 dX12_isLetterOn_5 rfl rfl ?_
    refine x_get g fl_X12_191 wm_0 rfl dX12_isLetterOn_6 ?_
    refine x_icmp_ge g 37 dX12_isLetterOn_9 (by decide) hf (fun c9 hf => ?_) (fun c9 hf => ?_)
    · refine x_iload_n g 2 dX12_isLetterOn_12 rfl rfl ?_
      refine x_if_ne g 25 dX12_isLetterOn_13 (by decide) hf (fun c13 hf => ?_) (fun c13 hf => ?_)
      · refine x_aload_n g 0 dX12_isLetterOn_16 rfl rfl ?_
        refine x_iload_n g 3 dX12_isLetterOn_17 rfl rfl ?_
        obtain ⟨r1, hgr1, hf⟩ := obind hf
        refine x_callV (r := (RX12, TX12, 53)) g xl [.int v3] [] [.int r1] (c_X12_linkOf hA hgr1) mf_X12_linkOf im_X12_linkOf se_X12_linkOf ml_X12_328 rfl wm_0 (by decide) (by decide) rfl (Nat.le_of_ble_eq_true rfl) dX12_isLetterOn_18 rfl rfl ?_
        refine x_iload_n g 1 dX12_isLetterOn_21 rfl rfl ?_
        refine x_icmp_ne g 29 dX12_isLetterOn_22 (by decide) hf (fun c22 hf => ?_) (fun c22 hf => ?_)
        · refine x_iconst g 1 dX12_isLetterOn_25 (by decide) ?_
          refine x_goto g 30 dX12_isLetterOn_26 (by decide) ?_
          refine x_istore_n (lv' := [(2, .int 1), (0, .ref (Ad 0)), (1, .int v1), (3, .int v3)]) g dX12_isLetterOn_30 rfl (by decide) rfl ?_
          refine x_iinc g 3 (v3 + 1) (lv' := [(3, .int (v3 + 1)), (2, .int 1), (0, .ref (Ad 0)), (1, .int v1)]) dX12_isLetterOn_31 rfl (by rfl) (by decide) rfl ?_
          refine x_goto g 4 dX12_isLetterOn_34 (by decide) ?_
          exact x_sub [2, 3, 1, 0] rfl (ih4 _ _ hf)
        · refine x_iconst g 0 dX12_isLetterOn_29 (by decide) ?_
          refine x_istore_n (lv' := [(2, .int 0), (0, .ref (Ad 0)), (1, .int v1), (3, .int v3)]) g dX12_isLetterOn_30 rfl (by decide) rfl ?_
          refine x_iinc g 3 (v3 + 1) (lv' := [(3, .int (v3 + 1)), (2, .int 0), (0, .ref (Ad 0)), (1, .int v1)]) dX12_isLetterOn_31 rfl (by rfl) (by decide) rfl ?_
          refine x_goto g 4 dX12_isLetterOn_34 (by decide) ?_
          exact x_sub [2, 3, 1, 0] rfl (ih4 _ _ hf)
      · refine x_iconst g 1 dX12_isLetterOn_25 (by decide) ?_
        refine x_goto g 30 dX12_isLetterOn_26 (by decide) ?_
        refine x_istore_n (lv' := [(2, .int 1), (0, .ref (Ad 0)), (1, .int v1), (3, .int v3)]) g dX12_isLetterOn_30 rfl (by decide) rfl ?_
        refine x_iinc g 3 (v3 + 1) (lv' := [(3, .int (v3 + 1)), (2, .int 1), (0, .ref (Ad 0)), (1, .int v1)]) dX12_isLetterOn_31 rfl (by rfl) (by decide) rfl ?_
        refine x_goto g 4 dX12_isLetterOn_34 (by decide) ?_
        exact x_sub [2, 3, 1, 0] rfl (ih4 _ _ hf)
    · refine x_iload_n g 2 dX12_isLetterOn_37 rfl rfl ?_
      have hb := isZ_and (chk_some hf).1
      replace hf := (chk_some hf).2
      cases hf
      exact x_zret g rfl hb ho dX12_isLetterOn_38
set_option maxHeartbeats 4000000 in
set_option maxRecDepth 100000 in
theorem c_X12_isLetterOn {l : Launch} {D : va_G} {cy : Nat → ClassId} {Ad : Nat → Nat} (hA : AdOK 37 Ad) {σ : St} {p1 : Int32} {o : Int32} (hf : f_X12_isLetterOn σ p1 = some o) : CT l (wM cy Ad) D cy (AdA 37 Ad) yX12_isLetterOn cX12_isLetterOn 4 (some .boolean) 1 [.ref (Ad 0), .int p1] σ (σ, (some (.int o))) := by
  refine CT.of mf_X12_isLetterOn (wM_D hA) (Nat.le_of_ble_eq_true rfl) ?_
  intro E xl g
  have ho : ((σ, (some (.int o))) : St × Option Value) = (σ, (some (.int o))) := rfl
  unfold f_X12_isLetterOn at hf
  show XJ E (wM cy Ad σ) 0 [(0, .ref (Ad 0)), (1, .int p1)] []
  refine x_iconst g 0 dX12_isLetterOn_0 (by decide) ?_
  refine x_istore_n (lv' := [(2, .int 0), (0, .ref (Ad 0)), (1, .int p1)]) g dX12_isLetterOn_1 rfl (by decide) rfl ?_
  refine x_iconst g 0 dX12_isLetterOn_2 (by decide) ?_
  refine x_istore_n (lv' := [(3, .int 0), (2, .int 0), (0, .ref (Ad 0)), (1, .int p1)]) g dX12_isLetterOn_3 rfl (by decide) rfl ?_
  exact x_sub [2, 3, 1, 0] rfl (l_X12_isLetterOn_L4 hA xl g _ _ ho FU _ _ hf)
/-! SlotChipModel.isShut(I)Z -/
def f_X12_isShut (σ : St) (p1 : Int32) : Option Int32 :=
  chk (¬ (σ.1 0 0 2) = 0) (
    (f_X12_ownerOf σ p1 (remI (σ.1 0 0 3) (σ.1 0 0 2)) (-1)).bind fun r1 =>
    chk (inb p1 54) (
      if (σ.1 5 0 (Int32.toNatClampNeg p1)) = 0 then
        ((f_X12_isLetterOn σ p1).bind fun r2 =>
        if r2 = 0 then
          (if r1 = (-1) then
            some 0
          else
            (chk (inb r1 8) (
              if (σ.1 10 0 (Int32.toNatClampNeg r1)) = 4 then
                some 1
              else
                some 0)))
        else
          some 1)
      else
        some 1))
set_option maxHeartbeats 4000000 in
set_option maxRecDepth 100000 in
theorem c_X12_isShut {l : Launch} {D : va_G} {cy : Nat → ClassId} {Ad : Nat → Nat} (hA : AdOK 37 Ad) {σ : St} {p1 : Int32} {o : Int32} (hf : f_X12_isShut σ p1 = some o) : CT l (wM cy Ad) D cy (AdA 37 Ad) yX12_isShut cX12_isShut 3 (some .boolean) 3 [.ref (Ad 0), .int p1] σ (σ, (some (.int o))) := by
  refine CT.of mf_X12_isShut (wM_D hA) (Nat.le_of_ble_eq_true rfl) ?_
  intro E xl g
  have ho : ((σ, (some (.int o))) : St × Option Value) = (σ, (some (.int o))) := rfl
  unfold f_X12_isShut at hf
  show XJ E (wM cy Ad σ) 0 [(0, .ref (Ad 0)), (1, .int p1)] []
  refine x_aload_n g 0 dX12_isShut_0 rfl rfl ?_
  refine x_iload_n g 1 dX12_isShut_1 rfl rfl ?_
  refine x_aload_n g 0 dX12_isShut_2 rfl rfl ?_
  refine x_get g fl_X12_188 wm_0 rfl dX12_isShut_3 ?_
  refine x_aload_n g 0 dX12_isShut_6 rfl rfl ?_
  refine x_get g fl_X12_185 wm_0 rfl dX12_isShut_7 ?_
  have hz := (chk_some hf).1
  replace hf := (chk_some hf).2
  refine x_irem g dX12_isShut_10 hz ?_
  refine x_iconst g (-1) dX12_isShut_11 (by decide) ?_
  obtain ⟨r1, hgr1, hf⟩ := obind hf
  refine x_callV (r := (RX12, TX12, 53)) g xl [.int p1, .int (remI (σ.1 0 0 3) (σ.1 0 0 2)), .int (-1)] [] [.int r1] (c_X12_ownerOf hA hgr1) mf_X12_ownerOf im_X12_ownerOf se_X12_ownerOf ml_X12_206 rfl wm_0 (by decide) (by decide) rfl (Nat.le_of_ble_eq_true rfl) dX12_isShut_12 rfl rfl ?_
  refine x_istore_n (lv' := [(2, .int r1), (0, .ref (Ad 0)), (1, .int p1)]) g dX12_isShut_15 rfl (by decide) rfl ?_
  refine x_aload_n g 1 dX12_isShut_16 rfl rfl ?_
  refine x_get g fl_X12_7 wm_0 rfl dX12_isShut_17 ?_
  refine x_iload_n g 2 dX12_isShut_20 rfl rfl ?_
  refine x_zald g wm_1 dX12_isShut_21 hf (fun hf => ?_)
  refine x_if_ne g 48 dX12_isShut_22 (by decide) hf (fun c22 hf => ?_) (fun c22 hf => ?_)
  · refine x_aload_n g 1 dX12_isShut_25 rfl rfl ?_
    refine x_iload_n g 2 dX12_isShut_26 rfl rfl ?_
    obtain ⟨r2, hgr2, hf⟩ := obind hf
    refine x_callV (r := (RX12, TX12, 53)) g xl [.int p1] [] [.int r2] (c_X12_isLetterOn hA hgr2) mf_X12_isLetterOn im_X12_isLetterOn se_X12_isLetterOn ml_X12_331 rfl wm_0 (by decide) (by decide) rfl (Nat.le_of_ble_eq_true rfl) dX12_isShut_27 rfl rfl ?_
    refine x_if_ne g 48 dX12_isShut_30 (by decide) hf (fun c30 hf => ?_) (fun c30 hf => ?_)
    · refine x_iload_n g 0 dX12_isShut_33 rfl rfl ?_
      refine x_iconst g (-1) dX12_isShut_34 (by decide) ?_
      refine x_icmp_eq g 52 dX12_isShut_35 (by decide) hf (fun c35 hf => ?_) (fun c35 hf => ?_)
      · refine x_iconst g 0 dX12_isShut_52 (by decide) ?_
        cases hf
        exact x_zret g rfl (by decide) ho dX12_isShut_53
      · refine x_aload_n g 1 dX12_isShut_38 rfl rfl ?_
        refine x_get g fl_X12_23 wm_0 rfl dX12_isShut_39 ?_
        refine x_iload_n g 0 dX12_isShut_42 rfl rfl ?_
        refine x_iald g wm_5 dX12_isShut_43 hf (fun hf => ?_)
        refine x_iconst g 4 dX12_isShut_44 (by decide) ?_
        refine x_icmp_ne g 52 dX12_isShut_45 (by decide) hf (fun c45 hf => ?_) (fun c45 hf => ?_)
        · refine x_iconst g 1 dX12_isShut_48 (by decide) ?_
          refine x_goto g 53 dX12_isShut_49 (by decide) ?_
          cases hf
          exact x_zret g rfl (by decide) ho dX12_isShut_53
        · refine x_iconst g 0 dX12_isShut_52 (by decide) ?_
          cases hf
          exact x_zret g rfl (by decide) ho dX12_isShut_53
    · refine x_iconst g 1 dX12_isShut_48 (by decide) ?_
      refine x_goto g 53 dX12_isShut_49 (by decide) ?_
      cases hf
      exact x_zret g rfl (by decide) ho dX12_isShut_53
  · refine x_iconst g 1 dX12_isShut_48 (by decide) ?_
    refine x_goto g 53 dX12_isShut_49 (by decide) ?_
    cases hf
    exact x_zret g rfl (by decide) ho dX12_isShut_53
/-! SlotChipModel.moveStrays()V -/
def f_X12_moveStrays_L36b (K36 : St → Int32 → Option St) (σ : St) (v1 : Int32) : Option St :=
  if v1 < 54 then
    ((f_X12_goesOn σ v1).bind fun r4 =>
    if r4 = (-1) then
      K36 σ (v1 + 1)
    else
      ((f_X12_isShut σ v1).bind fun r5 =>
      if r5 = 0 then
        (chk (inb r4 12) (
          bnd (si σ 49 0 (Int32.toNatClampNeg r4) 1) fun σ6 =>
          chk (inb v1 54) (
            chk (inb v1 54) (
              bnd (si σ6 6 0 (Int32.toNatClampNeg v1) ((σ6.1 6 0 (Int32.toNatClampNeg v1)) + 1)) fun σ7 =>
              K36 σ7 (v1 + 1)))))
      else
        K36 σ (v1 + 1)))
  else
    some σ
def f_X12_moveStrays_L36 : Nat → St → Int32 → Option St
  | 0 => fun _ _ => none
  | n + 1 => f_X12_moveStrays_L36b (f_X12_moveStrays_L36 n)
def f_X12_moveStrays_L2b (K2 : St → Int32 → Option St) (σ : St) (v1 : Int32) : Option St :=
  if v1 < (σ.1 0 0 30) then
    ((f_X12_nextLink σ v1).bind fun r1 =>
    chk (inb v1 12) (
      bnd (si σ 48 0 (Int32.toNatClampNeg v1) r1) fun σ2 =>
      chk (inb v1 12) (
        bnd (si σ2 49 0 (Int32.toNatClampNeg v1) 0) fun σ3 =>
        K2 σ3 (v1 + 1))))
  else
    f_X12_moveStrays_L36 FU σ 0
def f_X12_moveStrays_L2 : Nat → St → Int32 → Option St
  | 0 => fun _ _ => none
  | n + 1 => f_X12_moveStrays_L2b (f_X12_moveStrays_L2 n)
def f_X12_moveStrays (σ : St) : Option St :=
  f_X12_moveStrays_L2 FU σ 0
set_option maxHeartbeats 4000000 in
set_option maxRecDepth 100000 in
theorem l_X12_moveStrays_L36 {E : EV} {l : Launch} {D : va_G} {cy : Nat → ClassId} {Ad : Nat → Nat} {out : St × Option Value} {o : St} (hA : AdOK 37 Ad) (xl : XL E l D (AdA 37 Ad)) (g : XG E (wM cy Ad) cy cX12_moveStrays RX12 3 4 none out) (ho : out = (o, none)) : ∀ (n : Nat) (σ : St) (v1 : Int32), f_X12_moveStrays_L36 n σ v1 = some o → XJ E (wM cy Ad σ) 36 [(0, .ref (Ad 0)), (1, .int v1)] [] := by
  intro n
  induction n with
  | zero => intro _ _ hf; cases hf
  | succ n ih36 =>
    intro σ v1 hf
    replace hf : f_X12_moveStrays_L36b (f_X12_moveStrays_L36 n) σ v1 = some o := hf
    unfold f_X12_moveStrays_L36b at hf
    refine x_iload_n g 1 dX12_moveStrays_36 rfl rfl ?_
    refine x_bipush g 54 dX12_moveStrays_37 (by decide) ?_
    refine x_icmp_ge g 84 dX12_moveStrays_39 (by decide) hf (fun c39 hf => ?_) (fun c39 hf => ?_)
    · refine x_aload_n g 0 dX12_moveStrays_42 rfl rfl ?_
      refine x_iload_n g 1 dX12_moveStrays_43 rfl rfl ?_
      obtain ⟨r4, hgr4, hf⟩ := obind hf
      refine x_callV (r := (RX12, TX12, 53)) g xl [.int v1] [] [.int r4] (c_X12_goesOn hA hgr4) mf_X12_goesOn im_X12_goesOn se_X12_goesOn ml_X12_334 rfl wm_0 (by decide) (by decide) rfl (Nat.le_of_ble_eq_true rfl) dX12_moveStrays_44 rfl rfl ?_
      refine x_istore_n (lv' := [(2, .int r4), (0, .ref (Ad 0)), (1, .int v1)]) g dX12_moveStrays_47 rfl (by decide) rfl ?_
      refine x_iload_n g 0 dX12_moveStrays_48 rfl rfl ?_
      refine x_iconst g (-1) dX12_moveStrays_49 (by decide) ?_
      refine x_icmp_eq g 78 dX12_moveStrays_50 (by decide) hf (fun c50 hf => ?_) (fun c50 hf => ?_)
      · refine x_iinc g 2 (v1 + 1) (lv' := [(1, .int (v1 + 1)), (2, .int r4), (0, .ref (Ad 0))]) dX12_moveStrays_78 rfl (by rfl) (by decide) rfl ?_
        refine x_goto g 36 dX12_moveStrays_81 (by decide) ?_
        exact x_sub [2, 0] rfl (ih36 _ _ hf)
      · refine x_aload_n g 1 dX12_moveStrays_53 rfl rfl ?_
        refine x_iload_n g 2 dX12_moveStrays_54 rfl rfl ?_
        obtain ⟨r5, hgr5, hf⟩ := obind hf
        refine x_callV (r := (RX12, TX12, 53)) g xl [.int v1] [] [.int r5] (c_X12_isShut hA hgr5) mf_X12_isShut im_X12_isShut se_X12_isShut ml_X12_337 rfl wm_0 (by decide) (by decide) rfl (Nat.le_of_ble_eq_true rfl) dX12_moveStrays_55 rfl rfl ?_
        refine x_if_ne g 78 dX12_moveStrays_58 (by decide) hf (fun c58 hf => ?_) (fun c58 hf => ?_)
        · refine x_aload_n g 1 dX12_moveStrays_61 rfl rfl ?_
          refine x_get g fl_X12_116 wm_0 rfl dX12_moveStrays_62 ?_
          refine x_iload_n g 0 dX12_moveStrays_65 rfl rfl ?_
          refine x_iconst g 1 dX12_moveStrays_66 (by decide) ?_
          refine x_zastB g 1 rfl wm_36 (sm_36 _ _) dX12_moveStrays_67 hf (fun σ6 hf => ?_)
          refine x_aload_n g 1 dX12_moveStrays_68 rfl rfl ?_
          refine x_get g fl_X12_13 wm_0 rfl dX12_moveStrays_69 ?_
          refine x_iload_n g 2 dX12_moveStrays_72 rfl rfl ?_
          refine x_dup2 g dX12_moveStrays_73 rfl rfl ?_
          refine x_iald g wm_2 dX12_moveStrays_74 hf (fun hf => ?_)
          refine x_iconst g 1 dX12_moveStrays_75 (by decide) ?_
          refine x_iadd g dX12_moveStrays_76 ?_
          refine x_iastB g wm_2 (sm_2 _ _) dX12_moveStrays_77 hf (fun σ7 hf => ?_)
          refine x_iinc g 2 (v1 + 1) (lv' := [(1, .int (v1 + 1)), (2, .int r4), (0, .ref (Ad 0))]) dX12_moveStrays_78 rfl (by rfl) (by decide) rfl ?_
          refine x_goto g 36 dX12_moveStrays_81 (by decide) ?_
          exact x_sub [2, 0] rfl (ih36 _ _ hf)
        · refine x_iinc g 2 (v1 + 1) (lv' := [(1, .int (v1 + 1)), (2, .int r4), (0, .ref (Ad 0))]) dX12_moveStrays_78 rfl (by rfl) (by decide) rfl ?_
          refine x_goto g 36 dX12_moveStrays_81 (by decide) ?_
          exact x_sub [2, 0] rfl (ih36 _ _ hf)
    · cases hf
      exact x_vret g rfl ho dX12_moveStrays_84
set_option maxHeartbeats 4000000 in
set_option maxRecDepth 100000 in
theorem l_X12_moveStrays_L2 {E : EV} {l : Launch} {D : va_G} {cy : Nat → ClassId} {Ad : Nat → Nat} {out : St × Option Value} {o : St} (hA : AdOK 37 Ad) (xl : XL E l D (AdA 37 Ad)) (g : XG E (wM cy Ad) cy cX12_moveStrays RX12 3 4 none out) (ho : out = (o, none)) : ∀ (n : Nat) (σ : St) (v1 : Int32), f_X12_moveStrays_L2 n σ v1 = some o → XJ E (wM cy Ad σ) 2 [(0, .ref (Ad 0)), (1, .int v1)] [] := by
  intro n
  induction n with
  | zero => intro _ _ hf; cases hf
  | succ n ih2 =>
    intro σ v1 hf
    replace hf : f_X12_moveStrays_L2b (f_X12_moveStrays_L2 n) σ v1 = some o := hf
    unfold f_X12_moveStrays_L2b at hf
    refine x_iload_n g 1 dX12_moveStrays_2 rfl rfl ?_
    refine x_aload_n g 0 dX12_moveStrays_3 rfl rfl ?_
    refine x_get g fl_X12_194 wm_0 rfl dX12_moveStrays_4 ?_
    refine x_icmp_ge g 34 dX12_moveStrays_7 (by decide) hf (fun c7 hf => ?_) (fun c7 hf => ?_)
    · refine x_aload_n g 0 dX12_moveStrays_10 rfl rfl ?_
      refine x_get g fl_X12_113 wm_0 rfl dX12_moveStrays_11 ?_
      refine x_iload_n g 1 dX12_moveStrays_14 rfl rfl ?_
      refine x_aload_n g 0 dX12_moveStrays_15 rfl rfl ?_
      refine x_iload_n g 1 dX12_moveStrays_16 rfl rfl ?_
      obtain ⟨r1, hgr1, hf⟩ := obind hf
      refine x_callV (r := (RX12, TX12, 53)) g xl [.int v1] [.int v1, .ref (Ad 35)] [.int r1, .int v1, .ref (Ad 35)] (c_X12_nextLink hA hgr1) mf_X12_nextLink im_X12_nextLink se_X12_nextLink ml_X12_316 rfl wm_0 (by decide) (by decide) rfl (Nat.le_of_ble_eq_true rfl) dX12_moveStrays_17 rfl rfl ?_
      refine x_iastB g wm_35 (sm_35 _ _) dX12_moveStrays_20 hf (fun σ2 hf => ?_)
      refine x_aload_n g 0 dX12_moveStrays_21 rfl rfl ?_
      refine x_get g fl_X12_116 wm_0 rfl dX12_moveStrays_22 ?_
      refine x_iload_n g 1 dX12_moveStrays_25 rfl rfl ?_
      refine x_iconst g 0 dX12_moveStrays_26 (by decide) ?_
      refine x_zastB g 0 rfl wm_36 (sm_36 _ _) dX12_moveStrays_27 hf (fun σ3 hf => ?_)
      refine x_iinc g 1 (v1 + 1) (lv' := [(1, .int (v1 + 1)), (0, .ref (Ad 0))]) dX12_moveStrays_28 rfl (by rfl) (by decide) rfl ?_
      refine x_goto g 2 dX12_moveStrays_31 (by decide) ?_
      exact x_sub [1, 0] rfl (ih2 _ _ hf)
    · refine x_iconst g 0 dX12_moveStrays_34 (by decide) ?_
      refine x_istore_n (lv' := [(1, .int 0), (0, .ref (Ad 0))]) g dX12_moveStrays_35 rfl (by decide) rfl ?_
      exact x_sub [1, 0] rfl (l_X12_moveStrays_L36 hA xl g ho FU _ _ hf)
set_option maxHeartbeats 4000000 in
set_option maxRecDepth 100000 in
theorem c_X12_moveStrays {l : Launch} {D : va_G} {cy : Nat → ClassId} {Ad : Nat → Nat} (hA : AdOK 37 Ad) {σ : St} {o : St} (hf : f_X12_moveStrays σ = some o) : CT l (wM cy Ad) D cy (AdA 37 Ad) yX12_moveStrays cX12_moveStrays 3 none 4 [.ref (Ad 0)] σ (o, none) := by
  refine CT.of mf_X12_moveStrays (wM_D hA) (Nat.le_of_ble_eq_true rfl) ?_
  intro E xl g
  have ho : ((o, none) : St × Option Value) = (o, none) := rfl
  unfold f_X12_moveStrays at hf
  show XJ E (wM cy Ad σ) 0 [(0, .ref (Ad 0))] []
  refine x_iconst g 0 dX12_moveStrays_0 (by decide) ?_
  refine x_istore_n (lv' := [(1, .int 0), (0, .ref (Ad 0))]) g dX12_moveStrays_1 rfl (by decide) rfl ?_
  exact x_sub [1, 0] rfl (l_X12_moveStrays_L2 hA xl g ho FU _ _ hf)
/-! SlotChipModel.arriveLetter(I)V -/
def f_X12_arriveLetter (σ : St) (p1 : Int32) : Option St :=
  chk (inb p1 96) (
    bnd (σ.1 26 0 (Int32.toNatClampNeg p1)) fun y1 =>
    chk (inb y1 8) (
      chk (inb p1 96) (
        chk (inb y1 8) (
          bnd (si σ 20 0 (Int32.toNatClampNeg y1) ((σ.1 20 0 (Int32.toNatClampNeg y1)) + (σ.1 28 0 (Int32.toNatClampNeg p1)))) fun σ2 =>
          chk (inb y1 8) (
            chk (inb p1 96) (
              chk (inb y1 8) (
                bnd (si σ2 22 0 (Int32.toNatClampNeg y1) ((σ2.1 22 0 (Int32.toNatClampNeg y1)) + (σ2.1 28 0 (Int32.toNatClampNeg p1)))) fun σ3 =>
                chk (inb p1 96) (
                  bnd (si σ3 0 0 50 ((σ3.1 0 0 50) + (σ3.1 28 0 (Int32.toNatClampNeg p1)))) fun σ4 =>
                  chk (inb p1 96) (
                    if 0 < (σ4.1 29 0 (Int32.toNatClampNeg p1)) then
                      (chk (inb y1 8) (
                        chk (inb (σ4.1 23 0 (Int32.toNatClampNeg y1)) 8) (
                          chk (inb p1 96) (
                            chk (inb (σ4.1 23 0 (Int32.toNatClampNeg y1)) 8) (
                              bnd (si σ4 19 0 (Int32.toNatClampNeg (σ4.1 23 0 (Int32.toNatClampNeg y1))) ((σ4.1 19 0 (Int32.toNatClampNeg (σ4.1 23 0 (Int32.toNatClampNeg y1)))) + (σ4.1 29 0 (Int32.toNatClampNeg p1)))) fun σ5 =>
                              some σ5)))))
                    else
                      some σ4)))))))))
set_option maxHeartbeats 4000000 in
set_option maxRecDepth 100000 in
theorem c_X12_arriveLetter {l : Launch} {D : va_G} {cy : Nat → ClassId} {Ad : Nat → Nat} (hA : AdOK 37 Ad) {σ : St} {p1 : Int32} {o : St} (hf : f_X12_arriveLetter σ p1 = some o) : CT l (wM cy Ad) D cy (AdA 37 Ad) yX12_arriveLetter cX12_arriveLetter 3 none 0 [.ref (Ad 0), .int p1] σ (o, none) := by
  refine CT.of mf_X12_arriveLetter (wM_D hA) (Nat.le_of_ble_eq_true rfl) ?_
  intro E xl g
  have ho : ((o, none) : St × Option Value) = (o, none) := rfl
  unfold f_X12_arriveLetter at hf
  show XJ E (wM cy Ad σ) 0 [(0, .ref (Ad 0)), (1, .int p1)] []
  refine x_aload_n g 0 dX12_arriveLetter_0 rfl rfl ?_
  refine x_get g fl_X12_68 wm_0 rfl dX12_arriveLetter_1 ?_
  refine x_iload_n g 1 dX12_arriveLetter_4 rfl rfl ?_
  refine x_iald g wm_20 dX12_arriveLetter_5 hf (fun hf => ?_)
  refine x_nami hf (fun y1 hf => ?_)
  refine x_istore_n (lv' := [(2, .int y1), (0, .ref (Ad 0)), (1, .int p1)]) g dX12_arriveLetter_6 rfl (by decide) rfl ?_
  refine x_aload_n g 1 dX12_arriveLetter_7 rfl rfl ?_
  refine x_get g fl_X12_53 wm_0 rfl dX12_arriveLetter_8 ?_
  refine x_iload_n g 0 dX12_arriveLetter_11 rfl rfl ?_
  refine x_dup2 g dX12_arriveLetter_12 rfl rfl ?_
  refine x_iald g wm_15 dX12_arriveLetter_13 hf (fun hf => ?_)
  refine x_aload_n g 1 dX12_arriveLetter_14 rfl rfl ?_
  refine x_get g fl_X12_74 wm_0 rfl dX12_arriveLetter_15 ?_
  refine x_iload_n g 2 dX12_arriveLetter_18 rfl rfl ?_
  refine x_iald g wm_22 dX12_arriveLetter_19 hf (fun hf => ?_)
  refine x_iadd g dX12_arriveLetter_20 ?_
  refine x_iastB g wm_15 (sm_15 _ _) dX12_arriveLetter_21 hf (fun σ2 hf => ?_)
  refine x_aload_n g 1 dX12_arriveLetter_22 rfl rfl ?_
  refine x_get g fl_X12_59 wm_0 rfl dX12_arriveLetter_23 ?_
  refine x_iload_n g 0 dX12_arriveLetter_26 rfl rfl ?_
  refine x_dup2 g dX12_arriveLetter_27 rfl rfl ?_
  refine x_iald g wm_17 dX12_arriveLetter_28 hf (fun hf => ?_)
  refine x_aload_n g 1 dX12_arriveLetter_29 rfl rfl ?_
  refine x_get g fl_X12_74 wm_0 rfl dX12_arriveLetter_30 ?_
  refine x_iload_n g 2 dX12_arriveLetter_33 rfl rfl ?_
  refine x_iald g wm_22 dX12_arriveLetter_34 hf (fun hf => ?_)
  refine x_iadd g dX12_arriveLetter_35 ?_
  refine x_iastB g wm_17 (sm_17 _ _) dX12_arriveLetter_36 hf (fun σ3 hf => ?_)
  refine x_aload_n g 1 dX12_arriveLetter_37 rfl rfl ?_
  refine x_dup g dX12_arriveLetter_38 rfl ?_
  refine x_get g fl_X12_340 wm_0 rfl dX12_arriveLetter_39 ?_
  refine x_aload_n g 1 dX12_arriveLetter_42 rfl rfl ?_
  refine x_get g fl_X12_74 wm_0 rfl dX12_arriveLetter_43 ?_
  refine x_iload_n g 2 dX12_arriveLetter_46 rfl rfl ?_
  refine x_iald g wm_22 dX12_arriveLetter_47 hf (fun hf => ?_)
  refine x_iadd g dX12_arriveLetter_48 ?_
  refine x_putB g tyX12 fl_X12_340 tyX12_ok nmX12 wm_0 rfl rfl rfl (Nat.le_of_ble_eq_true rfl) (sm_0_50 _) dX12_arriveLetter_49 hf (fun σ4 hf => ?_)
  refine x_aload_n g 1 dX12_arriveLetter_52 rfl rfl ?_
  refine x_get g fl_X12_77 wm_0 rfl dX12_arriveLetter_53 ?_
  refine x_iload_n g 2 dX12_arriveLetter_56 rfl rfl ?_
  refine x_iald g wm_23 dX12_arriveLetter_57 hf (fun hf => ?_)
  refine x_if_le g 81 dX12_arriveLetter_58 (by decide) hf (fun c58 hf => ?_) (fun c58 hf => ?_)
  · refine x_aload_n g 1 dX12_arriveLetter_61 rfl rfl ?_
    refine x_get g fl_X12_50 wm_0 rfl dX12_arriveLetter_62 ?_
    refine x_aload_n g 1 dX12_arriveLetter_65 rfl rfl ?_
    refine x_get g fl_X12_62 wm_0 rfl dX12_arriveLetter_66 ?_
    refine x_iload_n g 0 dX12_arriveLetter_69 rfl rfl ?_
    refine x_iald g wm_18 dX12_arriveLetter_70 hf (fun hf => ?_)
    refine x_dup2 g dX12_arriveLetter_71 rfl rfl ?_
    refine x_iald g wm_14 dX12_arriveLetter_72 hf (fun hf => ?_)
    refine x_aload_n g 1 dX12_arriveLetter_73 rfl rfl ?_
    refine x_get g fl_X12_77 wm_0 rfl dX12_arriveLetter_74 ?_
    refine x_iload_n g 2 dX12_arriveLetter_77 rfl rfl ?_
    refine x_iald g wm_23 dX12_arriveLetter_78 hf (fun hf => ?_)
    refine x_iadd g dX12_arriveLetter_79 ?_
    refine x_iastB g wm_14 (sm_14 _ _) dX12_arriveLetter_80 hf (fun σ5 hf => ?_)
    cases hf
    exact x_vret g rfl ho dX12_arriveLetter_81
  · cases hf
    exact x_vret g rfl ho dX12_arriveLetter_81
/-! SlotChipModel.setLetters()V -/
def f_X12_setLetters_L4b (K4 : St → Int32 → Int32 → Option St) (σ : St) (v1 : Int32) (v2 : Int32) : Option St :=
  if v2 < (σ.1 0 0 25) then
    (chk (inb v2 96) (
      chk (inb v2 96) (
        chk (inb (σ.1 26 0 (Int32.toNatClampNeg v2)) 8) (
          if ((σ.1 0 0 3) - (σ.1 27 0 (Int32.toNatClampNeg v2))) = ((σ.1 15 0 (Int32.toNatClampNeg (σ.1 26 0 (Int32.toNatClampNeg v2)))) + 1) then
            ((f_X12_arriveLetter σ v2).bind fun σ2 =>
            K4 σ2 v1 (v2 + 1))
          else
            (chk (inb v2 96) (
              chk (inb v1 96) (
                bnd (si σ 26 0 (Int32.toNatClampNeg v1) (σ.1 26 0 (Int32.toNatClampNeg v2))) fun σ3 =>
                chk (inb v2 96) (
                  chk (inb v1 96) (
                    bnd (si σ3 27 0 (Int32.toNatClampNeg v1) (σ3.1 27 0 (Int32.toNatClampNeg v2))) fun σ4 =>
                    chk (inb v2 96) (
                      chk (inb v1 96) (
                        bnd (si σ4 28 0 (Int32.toNatClampNeg v1) (σ4.1 28 0 (Int32.toNatClampNeg v2))) fun σ5 =>
                        chk (inb v2 96) (
                          chk (inb v1 96) (
                            bnd (si σ5 29 0 (Int32.toNatClampNeg v1) (σ5.1 29 0 (Int32.toNatClampNeg v2))) fun σ6 =>
                            K4 σ6 (v1 + 1) (v2 + 1))))))))))))))
  else
    (bnd (si σ 0 0 25 v1) fun σ7 =>
    some σ7)
def f_X12_setLetters_L4 : Nat → St → Int32 → Int32 → Option St
  | 0 => fun _ _ _ => none
  | n + 1 => f_X12_setLetters_L4b (f_X12_setLetters_L4 n)
def f_X12_setLetters (σ : St) : Option St :=
  f_X12_setLetters_L4 FU σ 0 0
set_option maxHeartbeats 4000000 in
set_option maxRecDepth 100000 in
theorem l_X12_setLetters_L4 {E : EV} {l : Launch} {D : va_G} {cy : Nat → ClassId} {Ad : Nat → Nat} {out : St × Option Value} {o : St} (hA : AdOK 37 Ad) (xl : XL E l D (AdA 37 Ad)) (g : XG E (wM cy Ad) cy cX12_setLetters RX12 3 1 none out) (ho : out = (o, none)) : ∀ (n : Nat) (σ : St) (v1 : Int32) (v2 : Int32), f_X12_setLetters_L4 n σ v1 v2 = some o → XJ E (wM cy Ad σ) 4 [(0, .ref (Ad 0)), (1, .int v1), (2, .int v2)] [] := by
  intro n
  induction n with
  | zero => intro _ _ _ hf; cases hf
  | succ n ih4 =>
    intro σ v1 v2 hf
    replace hf : f_X12_setLetters_L4b (f_X12_setLetters_L4 n) σ v1 v2 = some o := hf
    unfold f_X12_setLetters_L4b at hf
    refine x_iload_n g 2 dX12_setLetters_4 rfl rfl ?_
    refine x_aload_n g 0 dX12_setLetters_5 rfl rfl ?_
    refine x_get g fl_X12_191 wm_0 rfl dX12_setLetters_6 ?_
    refine x_icmp_ge g 104 dX12_setLetters_9 (by decide) hf (fun c9 hf => ?_) (fun c9 hf => ?_)
    · refine x_aload_n g 0 dX12_setLetters_12 rfl rfl ?_
      refine x_get g fl_X12_188 wm_0 rfl dX12_setLetters_13 ?_
      refine x_aload_n g 0 dX12_setLetters_16 rfl rfl ?_
      refine x_get g fl_X12_71 wm_0 rfl dX12_setLetters_17 ?_
      refine x_iload_n g 2 dX12_setLetters_20 rfl rfl ?_
      refine x_iald g wm_21 dX12_setLetters_21 hf (fun hf => ?_)
      refine x_isub g dX12_setLetters_22 ?_
      refine x_aload_n g 0 dX12_setLetters_23 rfl rfl ?_
      refine x_get g fl_X12_38 wm_0 rfl dX12_setLetters_24 ?_
      refine x_aload_n g 0 dX12_setLetters_27 rfl rfl ?_
      refine x_get g fl_X12_68 wm_0 rfl dX12_setLetters_28 ?_
      refine x_iload_n g 2 dX12_setLetters_31 rfl rfl ?_
      refine x_iald g wm_20 dX12_setLetters_32 hf (fun hf => ?_)
      refine x_iald g wm_10 dX12_setLetters_33 hf (fun hf => ?_)
      refine x_iconst g 1 dX12_setLetters_34 (by decide) ?_
      refine x_iadd g dX12_setLetters_35 ?_
      refine x_icmp_ne g 47 dX12_setLetters_36 (by decide) hf (fun c36 hf => ?_) (fun c36 hf => ?_)
      · refine x_aload_n g 0 dX12_setLetters_39 rfl rfl ?_
        refine x_iload_n g 2 dX12_setLetters_40 rfl rfl ?_
        obtain ⟨σ2, hgr1, hf⟩ := obind hf
        refine x_callV (r := (RX12, TX12, 53)) g xl [.int v2] [] [] (c_X12_arriveLetter hA hgr1) mf_X12_arriveLetter im_X12_arriveLetter se_X12_arriveLetter ml_X12_346 rfl wm_0 (by decide) (by decide) rfl (Nat.le_of_ble_eq_true rfl) dX12_setLetters_41 rfl rfl ?_
        refine x_goto g 98 dX12_setLetters_44 (by decide) ?_
        refine x_iinc g 2 (v2 + 1) (lv' := [(2, .int (v2 + 1)), (0, .ref (Ad 0)), (1, .int v1)]) dX12_setLetters_98 rfl (by rfl) (by decide) rfl ?_
        refine x_goto g 4 dX12_setLetters_101 (by decide) ?_
        exact x_sub [1, 2, 0] rfl (ih4 _ _ _ hf)
      · refine x_aload_n g 0 dX12_setLetters_47 rfl rfl ?_
        refine x_get g fl_X12_68 wm_0 rfl dX12_setLetters_48 ?_
        refine x_iload_n g 1 dX12_setLetters_51 rfl rfl ?_
        refine x_aload_n g 0 dX12_setLetters_52 rfl rfl ?_
        refine x_get g fl_X12_68 wm_0 rfl dX12_setLetters_53 ?_
        refine x_iload_n g 2 dX12_setLetters_56 rfl rfl ?_
        refine x_iald g wm_20 dX12_setLetters_57 hf (fun hf => ?_)
        refine x_iastB g wm_20 (sm_20 _ _) dX12_setLetters_58 hf (fun σ3 hf => ?_)
        refine x_aload_n g 0 dX12_setLetters_59 rfl rfl ?_
        refine x_get g fl_X12_71 wm_0 rfl dX12_setLetters_60 ?_
        refine x_iload_n g 1 dX12_setLetters_63 rfl rfl ?_
        refine x_aload_n g 0 dX12_setLetters_64 rfl rfl ?_
        refine x_get g fl_X12_71 wm_0 rfl dX12_setLetters_65 ?_
        refine x_iload_n g 2 dX12_setLetters_68 rfl rfl ?_
        refine x_iald g wm_21 dX12_setLetters_69 hf (fun hf => ?_)
        refine x_iastB g wm_21 (sm_21 _ _) dX12_setLetters_70 hf (fun σ4 hf => ?_)
        refine x_aload_n g 0 dX12_setLetters_71 rfl rfl ?_
        refine x_get g fl_X12_74 wm_0 rfl dX12_setLetters_72 ?_
        refine x_iload_n g 1 dX12_setLetters_75 rfl rfl ?_
        refine x_aload_n g 0 dX12_setLetters_76 rfl rfl ?_
        refine x_get g fl_X12_74 wm_0 rfl dX12_setLetters_77 ?_
        refine x_iload_n g 2 dX12_setLetters_80 rfl rfl ?_
        refine x_iald g wm_22 dX12_setLetters_81 hf (fun hf => ?_)
        refine x_iastB g wm_22 (sm_22 _ _) dX12_setLetters_82 hf (fun σ5 hf => ?_)
        refine x_aload_n g 0 dX12_setLetters_83 rfl rfl ?_
        refine x_get g fl_X12_77 wm_0 rfl dX12_setLetters_84 ?_
        refine x_iload_n g 1 dX12_setLetters_87 rfl rfl ?_
        refine x_aload_n g 0 dX12_setLetters_88 rfl rfl ?_
        refine x_get g fl_X12_77 wm_0 rfl dX12_setLetters_89 ?_
        refine x_iload_n g 2 dX12_setLetters_92 rfl rfl ?_
        refine x_iald g wm_23 dX12_setLetters_93 hf (fun hf => ?_)
        refine x_iastB g wm_23 (sm_23 _ _) dX12_setLetters_94 hf (fun σ6 hf => ?_)
        refine x_iinc g 1 (v1 + 1) (lv' := [(1, .int (v1 + 1)), (0, .ref (Ad 0)), (2, .int v2)]) dX12_setLetters_95 rfl (by rfl) (by decide) rfl ?_
        refine x_iinc g 2 (v2 + 1) (lv' := [(2, .int (v2 + 1)), (1, .int (v1 + 1)), (0, .ref (Ad 0))]) dX12_setLetters_98 rfl (by rfl) (by decide) rfl ?_
        refine x_goto g 4 dX12_setLetters_101 (by decide) ?_
        exact x_sub [2, 1, 0] rfl (ih4 _ _ _ hf)
    · refine x_aload_n g 0 dX12_setLetters_104 rfl rfl ?_
      refine x_iload_n g 1 dX12_setLetters_105 rfl rfl ?_
      refine x_putB g tyX12 fl_X12_191 tyX12_ok nmX12 wm_0 rfl rfl rfl (Nat.le_of_ble_eq_true rfl) (sm_0_25 _) dX12_setLetters_106 hf (fun σ7 hf => ?_)
      cases hf
      exact x_vret g rfl ho dX12_setLetters_109
set_option maxHeartbeats 4000000 in
set_option maxRecDepth 100000 in
theorem c_X12_setLetters {l : Launch} {D : va_G} {cy : Nat → ClassId} {Ad : Nat → Nat} (hA : AdOK 37 Ad) {σ : St} {o : St} (hf : f_X12_setLetters σ = some o) : CT l (wM cy Ad) D cy (AdA 37 Ad) yX12_setLetters cX12_setLetters 3 none 1 [.ref (Ad 0)] σ (o, none) := by
  refine CT.of mf_X12_setLetters (wM_D hA) (Nat.le_of_ble_eq_true rfl) ?_
  intro E xl g
  have ho : ((o, none) : St × Option Value) = (o, none) := rfl
  unfold f_X12_setLetters at hf
  show XJ E (wM cy Ad σ) 0 [(0, .ref (Ad 0))] []
  refine x_iconst g 0 dX12_setLetters_0 (by decide) ?_
  refine x_istore_n (lv' := [(1, .int 0), (0, .ref (Ad 0))]) g dX12_setLetters_1 rfl (by decide) rfl ?_
  refine x_iconst g 0 dX12_setLetters_2 (by decide) ?_
  refine x_istore_n (lv' := [(2, .int 0), (1, .int 0), (0, .ref (Ad 0))]) g dX12_setLetters_3 rfl (by decide) rfl ?_
  exact x_sub [2, 1, 0] rfl (l_X12_setLetters_L4 hA xl g ho FU _ _ _ hf)
/-! SlotChipModel.arrives(I)V -/
def f_X12_arrives (σ : St) (p1 : Int32) : Option St :=
  chk (inb p1 12) (
    if (σ.1 33 0 (Int32.toNatClampNeg p1)) = 0 then
      (chk (inb p1 12) (
        bnd (((σ.1 0 0 3) + 1) - (σ.1 35 0 (Int32.toNatClampNeg p1))) fun y1 =>
        bnd (si σ 36 0 0 ((σ.1 36 0 0) + 1)) fun σ2 =>
        bnd (si σ2 37 0 0 ((σ2.1 37 0 0) + y1)) fun σ3 =>
        if (σ3.1 38 0 0) < y1 then
          (bnd (si σ3 38 0 0 y1) fun σ4 =>
          bnd (si σ4 0 0 50 ((σ4.1 0 0 50) + 1)) fun σ5 =>
          some σ5)
        else
          (bnd (si σ3 38 0 0 (σ3.1 38 0 0)) fun σ6 =>
          bnd (si σ6 0 0 50 ((σ6.1 0 0 50) + 1)) fun σ7 =>
          some σ7)))
    else
      (chk (inb p1 12) (
        bnd (((σ.1 0 0 3) + 1) - (σ.1 35 0 (Int32.toNatClampNeg p1))) fun y8 =>
        bnd (si σ 36 0 1 ((σ.1 36 0 1) + 1)) fun σ9 =>
        bnd (si σ9 37 0 1 ((σ9.1 37 0 1) + y8)) fun σ10 =>
        if (σ10.1 38 0 1) < y8 then
          (bnd (si σ10 38 0 1 y8) fun σ11 =>
          bnd (si σ11 0 0 50 ((σ11.1 0 0 50) + 1)) fun σ12 =>
          some σ12)
        else
          (bnd (si σ10 38 0 1 (σ10.1 38 0 1)) fun σ13 =>
          bnd (si σ13 0 0 50 ((σ13.1 0 0 50) + 1)) fun σ14 =>
          some σ14))))
set_option maxHeartbeats 4000000 in
set_option maxRecDepth 100000 in
theorem c_X12_arrives {l : Launch} {D : va_G} {cy : Nat → ClassId} {Ad : Nat → Nat} (hA : AdOK 37 Ad) {σ : St} {p1 : Int32} {o : St} (hf : f_X12_arrives σ p1 = some o) : CT l (wM cy Ad) D cy (AdA 37 Ad) yX12_arrives cX12_arrives 4 none 0 [.ref (Ad 0), .int p1] σ (o, none) := by
  refine CT.of mf_X12_arrives (wM_D hA) (Nat.le_of_ble_eq_true rfl) ?_
  intro E xl g
  have ho : ((o, none) : St × Option Value) = (o, none) := rfl
  unfold f_X12_arrives at hf
  show XJ E (wM cy Ad σ) 0 [(0, .ref (Ad 0)), (1, .int p1)] []
  refine x_aload_n g 0 dX12_arrives_0 rfl rfl ?_
  refine x_get g fl_X12_86 wm_0 rfl dX12_arrives_1 ?_
  refine x_iload_n g 1 dX12_arrives_4 rfl rfl ?_
  refine x_zald g wm_26 dX12_arrives_5 hf (fun hf => ?_)
  refine x_if_eq g 13 dX12_arrives_6 (by decide) hf (fun c6 hf => ?_) (fun c6 hf => ?_)
  · refine x_iconst g 0 dX12_arrives_13 (by decide) ?_
    refine x_istore_n (lv' := [(2, .int 0), (0, .ref (Ad 0)), (1, .int p1)]) g dX12_arrives_14 rfl (by decide) rfl ?_
    refine x_aload_n g 1 dX12_arrives_15 rfl rfl ?_
    refine x_get g fl_X12_188 wm_0 rfl dX12_arrives_16 ?_
    refine x_iconst g 1 dX12_arrives_19 (by decide) ?_
    refine x_iadd g dX12_arrives_20 ?_
    refine x_aload_n g 1 dX12_arrives_21 rfl rfl ?_
    refine x_get g fl_X12_92 wm_0 rfl dX12_arrives_22 ?_
    refine x_iload_n g 2 dX12_arrives_25 rfl rfl ?_
    refine x_iald g wm_28 dX12_arrives_26 hf (fun hf => ?_)
    refine x_isub g dX12_arrives_27 ?_
    refine x_nami hf (fun y1 hf => ?_)
    refine x_istore_n (lv' := [(3, .int y1), (2, .int 0), (0, .ref (Ad 0)), (1, .int p1)]) g dX12_arrives_28 rfl (by decide) rfl ?_
    refine x_aload_n g 2 dX12_arrives_29 rfl rfl ?_
    refine x_get g fl_X12_95 wm_0 rfl dX12_arrives_30 ?_
    refine x_iload_n g 1 dX12_arrives_33 rfl rfl ?_
    refine x_dup2 g dX12_arrives_34 rfl rfl ?_
    refine x_iald g wm_29 dX12_arrives_35 (chk_of (by decide) hf) (fun hf => ?_)
    refine x_iconst g 1 dX12_arrives_36 (by decide) ?_
    refine x_iadd g dX12_arrives_37 ?_
    refine x_iastB g wm_29 (sm_29 _ _) dX12_arrives_38 (chk_of (by decide) hf) (fun σ2 hf => ?_)
    refine x_aload_n g 2 dX12_arrives_39 rfl rfl ?_
    refine x_get g fl_X12_98 wm_0 rfl dX12_arrives_40 ?_
    refine x_iload_n g 1 dX12_arrives_43 rfl rfl ?_
    refine x_dup2 g dX12_arrives_44 rfl rfl ?_
    refine x_iald g wm_30 dX12_arrives_45 (chk_of (by decide) hf) (fun hf => ?_)
    refine x_iload_n g 0 dX12_arrives_46 rfl rfl ?_
    refine x_iadd g dX12_arrives_47 ?_
    refine x_iastB g wm_30 (sm_30 _ _) dX12_arrives_48 (chk_of (by decide) hf) (fun σ3 hf => ?_)
    refine x_aload_n g 2 dX12_arrives_49 rfl rfl ?_
    refine x_get g fl_X12_101 wm_0 rfl dX12_arrives_50 ?_
    refine x_iload_n g 1 dX12_arrives_53 rfl rfl ?_
    refine x_iload_n g 0 dX12_arrives_54 rfl rfl ?_
    refine x_aload_n g 2 dX12_arrives_55 rfl rfl ?_
    refine x_get g fl_X12_101 wm_0 rfl dX12_arrives_56 ?_
    refine x_iload_n g 1 dX12_arrives_59 rfl rfl ?_
    refine x_iald g wm_31 dX12_arrives_60 (chk_of (by decide) hf) (fun hf => ?_)
    refine x_icmp_le g 68 dX12_arrives_61 (by decide) hf (fun c61 hf => ?_) (fun c61 hf => ?_)
    · refine x_iload_n g 0 dX12_arrives_64 rfl rfl ?_
      refine x_goto g 74 dX12_arrives_65 (by decide) ?_
      refine x_iastB g wm_31 (sm_31 _ _) dX12_arrives_74 (chk_of (by decide) hf) (fun σ4 hf => ?_)
      refine x_aload_n g 2 dX12_arrives_75 rfl rfl ?_
      refine x_dup g dX12_arrives_76 rfl ?_
      refine x_get g fl_X12_340 wm_0 rfl dX12_arrives_77 ?_
      refine x_iconst g 1 dX12_arrives_80 (by decide) ?_
      refine x_iadd g dX12_arrives_81 ?_
      refine x_putB g tyX12 fl_X12_340 tyX12_ok nmX12 wm_0 rfl rfl rfl (Nat.le_of_ble_eq_true rfl) (sm_0_50 _) dX12_arrives_82 hf (fun σ5 hf => ?_)
      cases hf
      exact x_vret g rfl ho dX12_arrives_85
    · refine x_aload_n g 2 dX12_arrives_68 rfl rfl ?_
      refine x_get g fl_X12_101 wm_0 rfl dX12_arrives_69 ?_
      refine x_iload_n g 1 dX12_arrives_72 rfl rfl ?_
      refine x_iald g wm_31 dX12_arrives_73 (chk_of (by decide) hf) (fun hf => ?_)
      refine x_iastB g wm_31 (sm_31 _ _) dX12_arrives_74 (chk_of (by decide) hf) (fun σ6 hf => ?_)
      refine x_aload_n g 2 dX12_arrives_75 rfl rfl ?_
      refine x_dup g dX12_arrives_76 rfl ?_
      refine x_get g fl_X12_340 wm_0 rfl dX12_arrives_77 ?_
      refine x_iconst g 1 dX12_arrives_80 (by decide) ?_
      refine x_iadd g dX12_arrives_81 ?_
      refine x_putB g tyX12 fl_X12_340 tyX12_ok nmX12 wm_0 rfl rfl rfl (Nat.le_of_ble_eq_true rfl) (sm_0_50 _) dX12_arrives_82 hf (fun σ7 hf => ?_)
      cases hf
      exact x_vret g rfl ho dX12_arrives_85
  · refine x_iconst g 1 dX12_arrives_9 (by decide) ?_
    refine x_goto g 14 dX12_arrives_10 (by decide) ?_
    refine x_istore_n (lv' := [(2, .int 1), (0, .ref (Ad 0)), (1, .int p1)]) g dX12_arrives_14 rfl (by decide) rfl ?_
    refine x_aload_n g 1 dX12_arrives_15 rfl rfl ?_
    refine x_get g fl_X12_188 wm_0 rfl dX12_arrives_16 ?_
    refine x_iconst g 1 dX12_arrives_19 (by decide) ?_
    refine x_iadd g dX12_arrives_20 ?_
    refine x_aload_n g 1 dX12_arrives_21 rfl rfl ?_
    refine x_get g fl_X12_92 wm_0 rfl dX12_arrives_22 ?_
    refine x_iload_n g 2 dX12_arrives_25 rfl rfl ?_
    refine x_iald g wm_28 dX12_arrives_26 hf (fun hf => ?_)
    refine x_isub g dX12_arrives_27 ?_
    refine x_nami hf (fun y8 hf => ?_)
    refine x_istore_n (lv' := [(3, .int y8), (2, .int 1), (0, .ref (Ad 0)), (1, .int p1)]) g dX12_arrives_28 rfl (by decide) rfl ?_
    refine x_aload_n g 2 dX12_arrives_29 rfl rfl ?_
    refine x_get g fl_X12_95 wm_0 rfl dX12_arrives_30 ?_
    refine x_iload_n g 1 dX12_arrives_33 rfl rfl ?_
    refine x_dup2 g dX12_arrives_34 rfl rfl ?_
    refine x_iald g wm_29 dX12_arrives_35 (chk_of (by decide) hf) (fun hf => ?_)
    refine x_iconst g 1 dX12_arrives_36 (by decide) ?_
    refine x_iadd g dX12_arrives_37 ?_
    refine x_iastB g wm_29 (sm_29 _ _) dX12_arrives_38 (chk_of (by decide) hf) (fun σ9 hf => ?_)
    refine x_aload_n g 2 dX12_arrives_39 rfl rfl ?_
    refine x_get g fl_X12_98 wm_0 rfl dX12_arrives_40 ?_
    refine x_iload_n g 1 dX12_arrives_43 rfl rfl ?_
    refine x_dup2 g dX12_arrives_44 rfl rfl ?_
    refine x_iald g wm_30 dX12_arrives_45 (chk_of (by decide) hf) (fun hf => ?_)
    refine x_iload_n g 0 dX12_arrives_46 rfl rfl ?_
    refine x_iadd g dX12_arrives_47 ?_
    refine x_iastB g wm_30 (sm_30 _ _) dX12_arrives_48 (chk_of (by decide) hf) (fun σ10 hf => ?_)
    refine x_aload_n g 2 dX12_arrives_49 rfl rfl ?_
    refine x_get g fl_X12_101 wm_0 rfl dX12_arrives_50 ?_
    refine x_iload_n g 1 dX12_arrives_53 rfl rfl ?_
    refine x_iload_n g 0 dX12_arrives_54 rfl rfl ?_
    refine x_aload_n g 2 dX12_arrives_55 rfl rfl ?_
    refine x_get g fl_X12_101 wm_0 rfl dX12_arrives_56 ?_
    refine x_iload_n g 1 dX12_arrives_59 rfl rfl ?_
    refine x_iald g wm_31 dX12_arrives_60 (chk_of (by decide) hf) (fun hf => ?_)
    refine x_icmp_le g 68 dX12_arrives_61 (by decide) hf (fun c61 hf => ?_) (fun c61 hf => ?_)
    · refine x_iload_n g 0 dX12_arrives_64 rfl rfl ?_
      refine x_goto g 74 dX12_arrives_65 (by decide) ?_
      refine x_iastB g wm_31 (sm_31 _ _) dX12_arrives_74 (chk_of (by decide) hf) (fun σ11 hf => ?_)
      refine x_aload_n g 2 dX12_arrives_75 rfl rfl ?_
      refine x_dup g dX12_arrives_76 rfl ?_
      refine x_get g fl_X12_340 wm_0 rfl dX12_arrives_77 ?_
      refine x_iconst g 1 dX12_arrives_80 (by decide) ?_
      refine x_iadd g dX12_arrives_81 ?_
      refine x_putB g tyX12 fl_X12_340 tyX12_ok nmX12 wm_0 rfl rfl rfl (Nat.le_of_ble_eq_true rfl) (sm_0_50 _) dX12_arrives_82 hf (fun σ12 hf => ?_)
      cases hf
      exact x_vret g rfl ho dX12_arrives_85
    · refine x_aload_n g 2 dX12_arrives_68 rfl rfl ?_
      refine x_get g fl_X12_101 wm_0 rfl dX12_arrives_69 ?_
      refine x_iload_n g 1 dX12_arrives_72 rfl rfl ?_
      refine x_iald g wm_31 dX12_arrives_73 (chk_of (by decide) hf) (fun hf => ?_)
      refine x_iastB g wm_31 (sm_31 _ _) dX12_arrives_74 (chk_of (by decide) hf) (fun σ13 hf => ?_)
      refine x_aload_n g 2 dX12_arrives_75 rfl rfl ?_
      refine x_dup g dX12_arrives_76 rfl ?_
      refine x_get g fl_X12_340 wm_0 rfl dX12_arrives_77 ?_
      refine x_iconst g 1 dX12_arrives_80 (by decide) ?_
      refine x_iadd g dX12_arrives_81 ?_
      refine x_putB g tyX12 fl_X12_340 tyX12_ok nmX12 wm_0 rfl rfl rfl (Nat.le_of_ble_eq_true rfl) (sm_0_50 _) dX12_arrives_82 hf (fun σ14 hf => ?_)
      cases hf
      exact x_vret g rfl ho dX12_arrives_85
/-! SlotChipModel.setStrays()V -/
def f_X12_setStrays_L4b (K4 : St → Int32 → Int32 → Option St) (σ : St) (v1 : Int32) (v2 : Int32) : Option St :=
  if v2 < (σ.1 0 0 30) then
    (chk (inb v2 12) (
      bnd (σ.1 48 0 (Int32.toNatClampNeg v2)) fun y1 =>
      chk (inb v2 12) (
        if (σ.1 49 0 (Int32.toNatClampNeg v2)) = 0 then
          (chk (inb v2 12) (
            if (σ.1 49 0 (Int32.toNatClampNeg v2)) = 0 then
              (chk (inb v2 12) (
                chk (inb v1 12) (
                  bnd (si σ 34 0 (Int32.toNatClampNeg v1) (σ.1 34 0 (Int32.toNatClampNeg v2))) fun σ2 =>
                  chk (inb v2 12) (
                    chk (inb v1 12) (
                      bnd (si σ2 31 0 (Int32.toNatClampNeg v1) (σ2.1 31 0 (Int32.toNatClampNeg v2))) fun σ3 =>
                      chk (inb v2 12) (
                        chk (inb v1 12) (
                          bnd (si σ3 32 0 (Int32.toNatClampNeg v1) (σ3.1 32 0 (Int32.toNatClampNeg v2))) fun σ4 =>
                          chk (inb v2 12) (
                            chk (inb v1 12) (
                              bnd (si σ4 33 0 (Int32.toNatClampNeg v1) ((σ4.1 33 0 (Int32.toNatClampNeg v2)) &&& 1)) fun σ5 =>
                              chk (inb v2 12) (
                                chk (inb v1 12) (
                                  bnd (si σ5 35 0 (Int32.toNatClampNeg v1) (σ5.1 35 0 (Int32.toNatClampNeg v2))) fun σ6 =>
                                  K4 σ6 (v1 + 1) (v2 + 1))))))))))))
            else
              ((f_X12_leadsTo (y1 / 6) (remI y1 6) (σ.1 0 0 0) (σ.1 0 0 1)).bind fun r7 =>
              chk (inb v1 12) (
                bnd (si σ 34 0 (Int32.toNatClampNeg v1) r7) fun σ8 =>
                chk (inb v2 12) (
                  chk (inb v1 12) (
                    bnd (si σ8 31 0 (Int32.toNatClampNeg v1) (σ8.1 31 0 (Int32.toNatClampNeg v2))) fun σ9 =>
                    chk (inb v2 12) (
                      chk (inb v1 12) (
                        bnd (si σ9 32 0 (Int32.toNatClampNeg v1) (σ9.1 32 0 (Int32.toNatClampNeg v2))) fun σ10 =>
                        chk (inb v2 12) (
                          chk (inb v1 12) (
                            bnd (si σ10 33 0 (Int32.toNatClampNeg v1) ((σ10.1 33 0 (Int32.toNatClampNeg v2)) &&& 1)) fun σ11 =>
                            chk (inb v2 12) (
                              chk (inb v1 12) (
                                bnd (si σ11 35 0 (Int32.toNatClampNeg v1) (σ11.1 35 0 (Int32.toNatClampNeg v2))) fun σ12 =>
                                K4 σ12 (v1 + 1) (v2 + 1)))))))))))))
        else
          (if (remI y1 6) = 1 then
            ((f_X12_arrives σ v2).bind fun σ14 =>
            K4 σ14 v1 (v2 + 1))
          else
            (chk (inb v2 12) (
              if (σ.1 49 0 (Int32.toNatClampNeg v2)) = 0 then
                (chk (inb v2 12) (
                  chk (inb v1 12) (
                    bnd (si σ 34 0 (Int32.toNatClampNeg v1) (σ.1 34 0 (Int32.toNatClampNeg v2))) fun σ15 =>
                    chk (inb v2 12) (
                      chk (inb v1 12) (
                        bnd (si σ15 31 0 (Int32.toNatClampNeg v1) (σ15.1 31 0 (Int32.toNatClampNeg v2))) fun σ16 =>
                        chk (inb v2 12) (
                          chk (inb v1 12) (
                            bnd (si σ16 32 0 (Int32.toNatClampNeg v1) (σ16.1 32 0 (Int32.toNatClampNeg v2))) fun σ17 =>
                            chk (inb v2 12) (
                              chk (inb v1 12) (
                                bnd (si σ17 33 0 (Int32.toNatClampNeg v1) ((σ17.1 33 0 (Int32.toNatClampNeg v2)) &&& 1)) fun σ18 =>
                                chk (inb v2 12) (
                                  chk (inb v1 12) (
                                    bnd (si σ18 35 0 (Int32.toNatClampNeg v1) (σ18.1 35 0 (Int32.toNatClampNeg v2))) fun σ19 =>
                                    K4 σ19 (v1 + 1) (v2 + 1))))))))))))
              else
                ((f_X12_leadsTo (y1 / 6) (remI y1 6) (σ.1 0 0 0) (σ.1 0 0 1)).bind fun r20 =>
                chk (inb v1 12) (
                  bnd (si σ 34 0 (Int32.toNatClampNeg v1) r20) fun σ21 =>
                  chk (inb v2 12) (
                    chk (inb v1 12) (
                      bnd (si σ21 31 0 (Int32.toNatClampNeg v1) (σ21.1 31 0 (Int32.toNatClampNeg v2))) fun σ22 =>
                      chk (inb v2 12) (
                        chk (inb v1 12) (
                          bnd (si σ22 32 0 (Int32.toNatClampNeg v1) (σ22.1 32 0 (Int32.toNatClampNeg v2))) fun σ23 =>
                          chk (inb v2 12) (
                            chk (inb v1 12) (
                              bnd (si σ23 33 0 (Int32.toNatClampNeg v1) ((σ23.1 33 0 (Int32.toNatClampNeg v2)) &&& 1)) fun σ24 =>
                              chk (inb v2 12) (
                                chk (inb v1 12) (
                                  bnd (si σ24 35 0 (Int32.toNatClampNeg v1) (σ24.1 35 0 (Int32.toNatClampNeg v2))) fun σ25 =>
                                  K4 σ25 (v1 + 1) (v2 + 1)))))))))))))))))
  else
    (bnd (si σ 0 0 30 v1) fun σ26 =>
    some σ26)
def f_X12_setStrays_L4 : Nat → St → Int32 → Int32 → Option St
  | 0 => fun _ _ _ => none
  | n + 1 => f_X12_setStrays_L4b (f_X12_setStrays_L4 n)
def f_X12_setStrays (σ : St) : Option St :=
  f_X12_setStrays_L4 FU σ 0 0
set_option maxHeartbeats 4000000 in
set_option maxRecDepth 100000 in
theorem l_X12_setStrays_L4 {E : EV} {l : Launch} {D : va_G} {cy : Nat → ClassId} {Ad : Nat → Nat} {out : St × Option Value} {o : St} (hA : AdOK 37 Ad) (xl : XL E l D (AdA 37 Ad)) (g : XG E (wM cy Ad) cy cX12_setStrays RX12 5 1 none out) (ho : out = (o, none)) : ∀ (n : Nat) (σ : St) (v1 : Int32) (v2 : Int32), f_X12_setStrays_L4 n σ v1 v2 = some o → XJ E (wM cy Ad σ) 4 [(0, .ref (Ad 0)), (1, .int v1), (2, .int v2)] [] := by
  intro n
  induction n with
  | zero => intro _ _ _ hf; cases hf
  | succ n ih4 =>
    intro σ v1 v2 hf
    replace hf : f_X12_setStrays_L4b (f_X12_setStrays_L4 n) σ v1 v2 = some o := hf
    unfold f_X12_setStrays_L4b at hf
    refine x_iload_n g 2 dX12_setStrays_4 rfl rfl ?_
    refine x_aload_n g 0 dX12_setStrays_5 rfl rfl ?_
    refine x_get g fl_X12_194 wm_0 rfl dX12_setStrays_6 ?_
    refine x_icmp_ge g 156 dX12_setStrays_9 (by decide) hf (fun c9 hf => ?_) (fun c9 hf => ?_)
    · refine x_aload_n g 0 dX12_setStrays_12 rfl rfl ?_
      refine x_get g fl_X12_113 wm_0 rfl dX12_setStrays_13 ?_
      refine x_iload_n g 2 dX12_setStrays_16 rfl rfl ?_
      refine x_iald g wm_35 dX12_setStrays_17 hf (fun hf => ?_)
      refine x_nami hf (fun y1 hf => ?_)
      refine x_istore_n (lv' := [(3, .int y1), (0, .ref (Ad 0)), (1, .int v1), (2, .int v2)]) g dX12_setStrays_18 rfl (by decide) rfl ?_
      refine x_aload_n g 1 dX12_setStrays_19 rfl rfl ?_
      refine x_get g fl_X12_116 wm_0 rfl dX12_setStrays_20 ?_
      refine x_iload_n g 3 dX12_setStrays_23 rfl rfl ?_
      refine x_zald g wm_36 dX12_setStrays_24 hf (fun hf => ?_)
      refine x_if_eq g 40 dX12_setStrays_25 (by decide) hf (fun c25 hf => ?_) (fun c25 hf => ?_)
      · refine x_iconst g 0 dX12_setStrays_40 (by decide) ?_
        refine x_istore (lv' := [(4, .int 0), (3, .int y1), (0, .ref (Ad 0)), (1, .int v1), (2, .int v2)]) g dX12_setStrays_41 (by decide) rfl ?_
        refine x_iload g 0 dX12_setStrays_43 rfl ?_
        refine x_if_eq_t g 56 dX12_setStrays_45 (by decide) (by decide) ?_
        refine x_aload_n g 2 dX12_setStrays_56 rfl rfl ?_
        refine x_get g fl_X12_89 wm_0 rfl dX12_setStrays_57 ?_
        refine x_iload_n g 3 dX12_setStrays_60 rfl rfl ?_
        refine x_aload_n g 2 dX12_setStrays_61 rfl rfl ?_
        refine x_get g fl_X12_116 wm_0 rfl dX12_setStrays_62 ?_
        refine x_iload_n g 4 dX12_setStrays_65 rfl rfl ?_
        refine x_zald g wm_36 dX12_setStrays_66 hf (fun hf => ?_)
        refine x_if_eq g 92 dX12_setStrays_67 (by decide) hf (fun c67 hf => ?_) (fun c67 hf => ?_)
        · refine x_aload_n g 2 dX12_setStrays_92 rfl rfl ?_
          refine x_get g fl_X12_89 wm_0 rfl dX12_setStrays_93 ?_
          refine x_iload_n g 4 dX12_setStrays_96 rfl rfl ?_
          refine x_iald g wm_27 dX12_setStrays_97 hf (fun hf => ?_)
          refine x_iastB g wm_27 (sm_27 _ _) dX12_setStrays_98 hf (fun σ2 hf => ?_)
          refine x_aload_n g 2 dX12_setStrays_99 rfl rfl ?_
          refine x_get g fl_X12_80 wm_0 rfl dX12_setStrays_100 ?_
          refine x_iload_n g 3 dX12_setStrays_103 rfl rfl ?_
          refine x_aload_n g 2 dX12_setStrays_104 rfl rfl ?_
          refine x_get g fl_X12_80 wm_0 rfl dX12_setStrays_105 ?_
          refine x_iload_n g 4 dX12_setStrays_108 rfl rfl ?_
          refine x_iald g wm_24 dX12_setStrays_109 hf (fun hf => ?_)
          refine x_iastB g wm_24 (sm_24 _ _) dX12_setStrays_110 hf (fun σ3 hf => ?_)
          refine x_aload_n g 2 dX12_setStrays_111 rfl rfl ?_
          refine x_get g fl_X12_83 wm_0 rfl dX12_setStrays_112 ?_
          refine x_iload_n g 3 dX12_setStrays_115 rfl rfl ?_
          refine x_aload_n g 2 dX12_setStrays_116 rfl rfl ?_
          refine x_get g fl_X12_83 wm_0 rfl dX12_setStrays_117 ?_
          refine x_iload_n g 4 dX12_setStrays_120 rfl rfl ?_
          refine x_iald g wm_25 dX12_setStrays_121 hf (fun hf => ?_)
          refine x_iastB g wm_25 (sm_25 _ _) dX12_setStrays_122 hf (fun σ4 hf => ?_)
          refine x_aload_n g 2 dX12_setStrays_123 rfl rfl ?_
          refine x_get g fl_X12_86 wm_0 rfl dX12_setStrays_124 ?_
          refine x_iload_n g 3 dX12_setStrays_127 rfl rfl ?_
          refine x_aload_n g 2 dX12_setStrays_128 rfl rfl ?_
          refine x_get g fl_X12_86 wm_0 rfl dX12_setStrays_129 ?_
          refine x_iload_n g 4 dX12_setStrays_132 rfl rfl ?_
          refine x_zald g wm_26 dX12_setStrays_133 hf (fun hf => ?_)
          refine x_zastB g ((σ4.1 33 0 (Int32.toNatClampNeg v2)) &&& 1) rfl wm_26 (sm_26 _ _) dX12_setStrays_134 hf (fun σ5 hf => ?_)
          refine x_aload_n g 2 dX12_setStrays_135 rfl rfl ?_
          refine x_get g fl_X12_92 wm_0 rfl dX12_setStrays_136 ?_
          refine x_iload_n g 3 dX12_setStrays_139 rfl rfl ?_
          refine x_aload_n g 2 dX12_setStrays_140 rfl rfl ?_
          refine x_get g fl_X12_92 wm_0 rfl dX12_setStrays_141 ?_
          refine x_iload_n g 4 dX12_setStrays_144 rfl rfl ?_
          refine x_iald g wm_28 dX12_setStrays_145 hf (fun hf => ?_)
          refine x_iastB g wm_28 (sm_28 _ _) dX12_setStrays_146 hf (fun σ6 hf => ?_)
          refine x_iinc g 3 (v1 + 1) (lv' := [(1, .int (v1 + 1)), (4, .int 0), (3, .int y1), (0, .ref (Ad 0)), (2, .int v2)]) dX12_setStrays_147 rfl (by rfl) (by decide) rfl ?_
          refine x_iinc g 4 (v2 + 1) (lv' := [(2, .int (v2 + 1)), (1, .int (v1 + 1)), (4, .int 0), (3, .int y1), (0, .ref (Ad 0))]) dX12_setStrays_150 rfl (by rfl) (by decide) rfl ?_
          refine x_goto g 4 dX12_setStrays_153 (by decide) ?_
          exact x_sub [4, 1, 0] rfl (ih4 _ _ _ hf)
        · refine x_iload_n g 1 dX12_setStrays_70 rfl rfl ?_
          refine x_bipush g 6 dX12_setStrays_71 (by decide) ?_
          refine x_idiv g dX12_setStrays_73 (by decide) ?_
          refine x_iload_n g 1 dX12_setStrays_74 rfl rfl ?_
          refine x_bipush g 6 dX12_setStrays_75 (by decide) ?_
          refine x_irem g dX12_setStrays_77 (by decide) ?_
          refine x_aload_n g 2 dX12_setStrays_78 rfl rfl ?_
          refine x_get g fl_X12_119 wm_0 rfl dX12_setStrays_79 ?_
          refine x_aload_n g 2 dX12_setStrays_82 rfl rfl ?_
          refine x_get g fl_X12_123 wm_0 rfl dX12_setStrays_83 ?_
          obtain ⟨r7, hgr7, hf⟩ := obind hf
          refine x_callS g xl [.int (y1 / 6), .int (remI y1 6), .int (σ.1 0 0 0), .int (σ.1 0 0 1)] [.int v1, .ref (Ad 27)] [.int r7, .int v1, .ref (Ad 27)] (c_X12_leadsTo hA hgr7) mf_X12_leadsTo sm_X12_leadsTo ml_X12_134 (by decide) (by decide) rfl (Nat.le_of_ble_eq_true rfl) dX12_setStrays_86 rfl rfl ?_
          refine x_goto g 98 dX12_setStrays_89 (by decide) ?_
          refine x_iastB g wm_27 (sm_27 _ _) dX12_setStrays_98 hf (fun σ8 hf => ?_)
          refine x_aload_n g 2 dX12_setStrays_99 rfl rfl ?_
          refine x_get g fl_X12_80 wm_0 rfl dX12_setStrays_100 ?_
          refine x_iload_n g 3 dX12_setStrays_103 rfl rfl ?_
          refine x_aload_n g 2 dX12_setStrays_104 rfl rfl ?_
          refine x_get g fl_X12_80 wm_0 rfl dX12_setStrays_105 ?_
          refine x_iload_n g 4 dX12_setStrays_108 rfl rfl ?_
          refine x_iald g wm_24 dX12_setStrays_109 hf (fun hf => ?_)
          refine x_iastB g wm_24 (sm_24 _ _) dX12_setStrays_110 hf (fun σ9 hf => ?_)
          refine x_aload_n g 2 dX12_setStrays_111 rfl rfl ?_
          refine x_get g fl_X12_83 wm_0 rfl dX12_setStrays_112 ?_
          refine x_iload_n g 3 dX12_setStrays_115 rfl rfl ?_
          refine x_aload_n g 2 dX12_setStrays_116 rfl rfl ?_
          refine x_get g fl_X12_83 wm_0 rfl dX12_setStrays_117 ?_
          refine x_iload_n g 4 dX12_setStrays_120 rfl rfl ?_
          refine x_iald g wm_25 dX12_setStrays_121 hf (fun hf => ?_)
          refine x_iastB g wm_25 (sm_25 _ _) dX12_setStrays_122 hf (fun σ10 hf => ?_)
          refine x_aload_n g 2 dX12_setStrays_123 rfl rfl ?_
          refine x_get g fl_X12_86 wm_0 rfl dX12_setStrays_124 ?_
          refine x_iload_n g 3 dX12_setStrays_127 rfl rfl ?_
          refine x_aload_n g 2 dX12_setStrays_128 rfl rfl ?_
          refine x_get g fl_X12_86 wm_0 rfl dX12_setStrays_129 ?_
          refine x_iload_n g 4 dX12_setStrays_132 rfl rfl ?_
          refine x_zald g wm_26 dX12_setStrays_133 hf (fun hf => ?_)
          refine x_zastB g ((σ10.1 33 0 (Int32.toNatClampNeg v2)) &&& 1) rfl wm_26 (sm_26 _ _) dX12_setStrays_134 hf (fun σ11 hf => ?_)
          refine x_aload_n g 2 dX12_setStrays_135 rfl rfl ?_
          refine x_get g fl_X12_92 wm_0 rfl dX12_setStrays_136 ?_
          refine x_iload_n g 3 dX12_setStrays_139 rfl rfl ?_
          refine x_aload_n g 2 dX12_setStrays_140 rfl rfl ?_
          refine x_get g fl_X12_92 wm_0 rfl dX12_setStrays_141 ?_
          refine x_iload_n g 4 dX12_setStrays_144 rfl rfl ?_
          refine x_iald g wm_28 dX12_setStrays_145 hf (fun hf => ?_)
          refine x_iastB g wm_28 (sm_28 _ _) dX12_setStrays_146 hf (fun σ12 hf => ?_)
          refine x_iinc g 3 (v1 + 1) (lv' := [(1, .int (v1 + 1)), (4, .int 0), (3, .int y1), (0, .ref (Ad 0)), (2, .int v2)]) dX12_setStrays_147 rfl (by rfl) (by decide) rfl ?_
          refine x_iinc g 4 (v2 + 1) (lv' := [(2, .int (v2 + 1)), (1, .int (v1 + 1)), (4, .int 0), (3, .int y1), (0, .ref (Ad 0))]) dX12_setStrays_150 rfl (by rfl) (by decide) rfl ?_
          refine x_goto g 4 dX12_setStrays_153 (by decide) ?_
          exact x_sub [4, 1, 0] rfl (ih4 _ _ _ hf)
      · refine x_iload_n g 0 dX12_setStrays_28 rfl rfl ?_
        refine x_bipush g 6 dX12_setStrays_29 (by decide) ?_
        refine x_irem g dX12_setStrays_31 (by decide) ?_
        refine x_iconst g 1 dX12_setStrays_32 (by decide) ?_
        refine x_icmp_ne g 40 dX12_setStrays_33 (by decide) hf (fun c33 hf => ?_) (fun c33 hf => ?_)
        · refine x_iconst g 1 dX12_setStrays_36 (by decide) ?_
          refine x_goto g 41 dX12_setStrays_37 (by decide) ?_
          refine x_istore (lv' := [(4, .int 1), (3, .int y1), (0, .ref (Ad 0)), (1, .int v1), (2, .int v2)]) g dX12_setStrays_41 (by decide) rfl ?_
          refine x_iload g 0 dX12_setStrays_43 rfl ?_
          refine x_if_eq_f g 56 dX12_setStrays_45 (by decide) (by decide) ?_
          refine x_aload_n g 2 dX12_setStrays_48 rfl rfl ?_
          refine x_iload_n g 4 dX12_setStrays_49 rfl rfl ?_
          obtain ⟨σ14, hgr13, hf⟩ := obind hf
          refine x_callV (r := (RX12, TX12, 53)) g xl [.int v2] [] [] (c_X12_arrives hA hgr13) mf_X12_arrives im_X12_arrives se_X12_arrives ml_X12_343 rfl wm_0 (by decide) (by decide) rfl (Nat.le_of_ble_eq_true rfl) dX12_setStrays_50 rfl rfl ?_
          refine x_goto g 150 dX12_setStrays_53 (by decide) ?_
          refine x_iinc g 4 (v2 + 1) (lv' := [(2, .int (v2 + 1)), (4, .int 1), (3, .int y1), (0, .ref (Ad 0)), (1, .int v1)]) dX12_setStrays_150 rfl (by rfl) (by decide) rfl ?_
          refine x_goto g 4 dX12_setStrays_153 (by decide) ?_
          exact x_sub [3, 4, 0] rfl (ih4 _ _ _ hf)
        · refine x_iconst g 0 dX12_setStrays_40 (by decide) ?_
          refine x_istore (lv' := [(4, .int 0), (3, .int y1), (0, .ref (Ad 0)), (1, .int v1), (2, .int v2)]) g dX12_setStrays_41 (by decide) rfl ?_
          refine x_iload g 0 dX12_setStrays_43 rfl ?_
          refine x_if_eq_t g 56 dX12_setStrays_45 (by decide) (by decide) ?_
          refine x_aload_n g 2 dX12_setStrays_56 rfl rfl ?_
          refine x_get g fl_X12_89 wm_0 rfl dX12_setStrays_57 ?_
          refine x_iload_n g 3 dX12_setStrays_60 rfl rfl ?_
          refine x_aload_n g 2 dX12_setStrays_61 rfl rfl ?_
          refine x_get g fl_X12_116 wm_0 rfl dX12_setStrays_62 ?_
          refine x_iload_n g 4 dX12_setStrays_65 rfl rfl ?_
          refine x_zald g wm_36 dX12_setStrays_66 hf (fun hf => ?_)
          refine x_if_eq g 92 dX12_setStrays_67 (by decide) hf (fun c67 hf => ?_) (fun c67 hf => ?_)
          · refine x_aload_n g 2 dX12_setStrays_92 rfl rfl ?_
            refine x_get g fl_X12_89 wm_0 rfl dX12_setStrays_93 ?_
            refine x_iload_n g 4 dX12_setStrays_96 rfl rfl ?_
            refine x_iald g wm_27 dX12_setStrays_97 hf (fun hf => ?_)
            refine x_iastB g wm_27 (sm_27 _ _) dX12_setStrays_98 hf (fun σ15 hf => ?_)
            refine x_aload_n g 2 dX12_setStrays_99 rfl rfl ?_
            refine x_get g fl_X12_80 wm_0 rfl dX12_setStrays_100 ?_
            refine x_iload_n g 3 dX12_setStrays_103 rfl rfl ?_
            refine x_aload_n g 2 dX12_setStrays_104 rfl rfl ?_
            refine x_get g fl_X12_80 wm_0 rfl dX12_setStrays_105 ?_
            refine x_iload_n g 4 dX12_setStrays_108 rfl rfl ?_
            refine x_iald g wm_24 dX12_setStrays_109 hf (fun hf => ?_)
            refine x_iastB g wm_24 (sm_24 _ _) dX12_setStrays_110 hf (fun σ16 hf => ?_)
            refine x_aload_n g 2 dX12_setStrays_111 rfl rfl ?_
            refine x_get g fl_X12_83 wm_0 rfl dX12_setStrays_112 ?_
            refine x_iload_n g 3 dX12_setStrays_115 rfl rfl ?_
            refine x_aload_n g 2 dX12_setStrays_116 rfl rfl ?_
            refine x_get g fl_X12_83 wm_0 rfl dX12_setStrays_117 ?_
            refine x_iload_n g 4 dX12_setStrays_120 rfl rfl ?_
            refine x_iald g wm_25 dX12_setStrays_121 hf (fun hf => ?_)
            refine x_iastB g wm_25 (sm_25 _ _) dX12_setStrays_122 hf (fun σ17 hf => ?_)
            refine x_aload_n g 2 dX12_setStrays_123 rfl rfl ?_
            refine x_get g fl_X12_86 wm_0 rfl dX12_setStrays_124 ?_
            refine x_iload_n g 3 dX12_setStrays_127 rfl rfl ?_
            refine x_aload_n g 2 dX12_setStrays_128 rfl rfl ?_
            refine x_get g fl_X12_86 wm_0 rfl dX12_setStrays_129 ?_
            refine x_iload_n g 4 dX12_setStrays_132 rfl rfl ?_
            refine x_zald g wm_26 dX12_setStrays_133 hf (fun hf => ?_)
            refine x_zastB g ((σ17.1 33 0 (Int32.toNatClampNeg v2)) &&& 1) rfl wm_26 (sm_26 _ _) dX12_setStrays_134 hf (fun σ18 hf => ?_)
            refine x_aload_n g 2 dX12_setStrays_135 rfl rfl ?_
            refine x_get g fl_X12_92 wm_0 rfl dX12_setStrays_136 ?_
            refine x_iload_n g 3 dX12_setStrays_139 rfl rfl ?_
            refine x_aload_n g 2 dX12_setStrays_140 rfl rfl ?_
            refine x_get g fl_X12_92 wm_0 rfl dX12_setStrays_141 ?_
            refine x_iload_n g 4 dX12_setStrays_144 rfl rfl ?_
            refine x_iald g wm_28 dX12_setStrays_145 hf (fun hf => ?_)
            refine x_iastB g wm_28 (sm_28 _ _) dX12_setStrays_146 hf (fun σ19 hf => ?_)
            refine x_iinc g 3 (v1 + 1) (lv' := [(1, .int (v1 + 1)), (4, .int 0), (3, .int y1), (0, .ref (Ad 0)), (2, .int v2)]) dX12_setStrays_147 rfl (by rfl) (by decide) rfl ?_
            refine x_iinc g 4 (v2 + 1) (lv' := [(2, .int (v2 + 1)), (1, .int (v1 + 1)), (4, .int 0), (3, .int y1), (0, .ref (Ad 0))]) dX12_setStrays_150 rfl (by rfl) (by decide) rfl ?_
            refine x_goto g 4 dX12_setStrays_153 (by decide) ?_
            exact x_sub [4, 1, 0] rfl (ih4 _ _ _ hf)
          · refine x_iload_n g 1 dX12_setStrays_70 rfl rfl ?_
            refine x_bipush g 6 dX12_setStrays_71 (by decide) ?_
            refine x_idiv g dX12_setStrays_73 (by decide) ?_
            refine x_iload_n g 1 dX12_setStrays_74 rfl rfl ?_
            refine x_bipush g 6 dX12_setStrays_75 (by decide) ?_
            refine x_irem g dX12_setStrays_77 (by decide) ?_
            refine x_aload_n g 2 dX12_setStrays_78 rfl rfl ?_
            refine x_get g fl_X12_119 wm_0 rfl dX12_setStrays_79 ?_
            refine x_aload_n g 2 dX12_setStrays_82 rfl rfl ?_
            refine x_get g fl_X12_123 wm_0 rfl dX12_setStrays_83 ?_
            obtain ⟨r20, hgr20, hf⟩ := obind hf
            refine x_callS g xl [.int (y1 / 6), .int (remI y1 6), .int (σ.1 0 0 0), .int (σ.1 0 0 1)] [.int v1, .ref (Ad 27)] [.int r20, .int v1, .ref (Ad 27)] (c_X12_leadsTo hA hgr20) mf_X12_leadsTo sm_X12_leadsTo ml_X12_134 (by decide) (by decide) rfl (Nat.le_of_ble_eq_true rfl) dX12_setStrays_86 rfl rfl ?_
            refine x_goto g 98 dX12_setStrays_89 (by decide) ?_
            refine x_iastB g wm_27 (sm_27 _ _) dX12_setStrays_98 hf (fun σ21 hf => ?_)
            refine x_aload_n g 2 dX12_setStrays_99 rfl rfl ?_
            refine x_get g fl_X12_80 wm_0 rfl dX12_setStrays_100 ?_
            refine x_iload_n g 3 dX12_setStrays_103 rfl rfl ?_
            refine x_aload_n g 2 dX12_setStrays_104 rfl rfl ?_
            refine x_get g fl_X12_80 wm_0 rfl dX12_setStrays_105 ?_
            refine x_iload_n g 4 dX12_setStrays_108 rfl rfl ?_
            refine x_iald g wm_24 dX12_setStrays_109 hf (fun hf => ?_)
            refine x_iastB g wm_24 (sm_24 _ _) dX12_setStrays_110 hf (fun σ22 hf => ?_)
            refine x_aload_n g 2 dX12_setStrays_111 rfl rfl ?_
            refine x_get g fl_X12_83 wm_0 rfl dX12_setStrays_112 ?_
            refine x_iload_n g 3 dX12_setStrays_115 rfl rfl ?_
            refine x_aload_n g 2 dX12_setStrays_116 rfl rfl ?_
            refine x_get g fl_X12_83 wm_0 rfl dX12_setStrays_117 ?_
            refine x_iload_n g 4 dX12_setStrays_120 rfl rfl ?_
            refine x_iald g wm_25 dX12_setStrays_121 hf (fun hf => ?_)
            refine x_iastB g wm_25 (sm_25 _ _) dX12_setStrays_122 hf (fun σ23 hf => ?_)
            refine x_aload_n g 2 dX12_setStrays_123 rfl rfl ?_
            refine x_get g fl_X12_86 wm_0 rfl dX12_setStrays_124 ?_
            refine x_iload_n g 3 dX12_setStrays_127 rfl rfl ?_
            refine x_aload_n g 2 dX12_setStrays_128 rfl rfl ?_
            refine x_get g fl_X12_86 wm_0 rfl dX12_setStrays_129 ?_
            refine x_iload_n g 4 dX12_setStrays_132 rfl rfl ?_
            refine x_zald g wm_26 dX12_setStrays_133 hf (fun hf => ?_)
            refine x_zastB g ((σ23.1 33 0 (Int32.toNatClampNeg v2)) &&& 1) rfl wm_26 (sm_26 _ _) dX12_setStrays_134 hf (fun σ24 hf => ?_)
            refine x_aload_n g 2 dX12_setStrays_135 rfl rfl ?_
            refine x_get g fl_X12_92 wm_0 rfl dX12_setStrays_136 ?_
            refine x_iload_n g 3 dX12_setStrays_139 rfl rfl ?_
            refine x_aload_n g 2 dX12_setStrays_140 rfl rfl ?_
            refine x_get g fl_X12_92 wm_0 rfl dX12_setStrays_141 ?_
            refine x_iload_n g 4 dX12_setStrays_144 rfl rfl ?_
            refine x_iald g wm_28 dX12_setStrays_145 hf (fun hf => ?_)
            refine x_iastB g wm_28 (sm_28 _ _) dX12_setStrays_146 hf (fun σ25 hf => ?_)
            refine x_iinc g 3 (v1 + 1) (lv' := [(1, .int (v1 + 1)), (4, .int 0), (3, .int y1), (0, .ref (Ad 0)), (2, .int v2)]) dX12_setStrays_147 rfl (by rfl) (by decide) rfl ?_
            refine x_iinc g 4 (v2 + 1) (lv' := [(2, .int (v2 + 1)), (1, .int (v1 + 1)), (4, .int 0), (3, .int y1), (0, .ref (Ad 0))]) dX12_setStrays_150 rfl (by rfl) (by decide) rfl ?_
            refine x_goto g 4 dX12_setStrays_153 (by decide) ?_
            exact x_sub [4, 1, 0] rfl (ih4 _ _ _ hf)
    · refine x_aload_n g 0 dX12_setStrays_156 rfl rfl ?_
      refine x_iload_n g 1 dX12_setStrays_157 rfl rfl ?_
      refine x_putB g tyX12 fl_X12_194 tyX12_ok nmX12 wm_0 rfl rfl rfl (Nat.le_of_ble_eq_true rfl) (sm_0_30 _) dX12_setStrays_158 hf (fun σ26 hf => ?_)
      cases hf
      exact x_vret g rfl ho dX12_setStrays_161
set_option maxHeartbeats 4000000 in
set_option maxRecDepth 100000 in
theorem c_X12_setStrays {l : Launch} {D : va_G} {cy : Nat → ClassId} {Ad : Nat → Nat} (hA : AdOK 37 Ad) {σ : St} {o : St} (hf : f_X12_setStrays σ = some o) : CT l (wM cy Ad) D cy (AdA 37 Ad) yX12_setStrays cX12_setStrays 5 none 1 [.ref (Ad 0)] σ (o, none) := by
  refine CT.of mf_X12_setStrays (wM_D hA) (Nat.le_of_ble_eq_true rfl) ?_
  intro E xl g
  have ho : ((o, none) : St × Option Value) = (o, none) := rfl
  unfold f_X12_setStrays at hf
  show XJ E (wM cy Ad σ) 0 [(0, .ref (Ad 0))] []
  refine x_iconst g 0 dX12_setStrays_0 (by decide) ?_
  refine x_istore_n (lv' := [(1, .int 0), (0, .ref (Ad 0))]) g dX12_setStrays_1 rfl (by decide) rfl ?_
  refine x_iconst g 0 dX12_setStrays_2 (by decide) ?_
  refine x_istore_n (lv' := [(2, .int 0), (1, .int 0), (0, .ref (Ad 0))]) g dX12_setStrays_3 rfl (by decide) rfl ?_
  exact x_sub [2, 1, 0] rfl (l_X12_setStrays_L4 hA xl g ho FU _ _ _ hf)
/-! SlotChipModel.cycle()V -/
def f_X12_cycle_L51b (K51 : St → Int32 → Option St) (σ : St) (v1 : Int32) : Option St :=
  if v1 < (σ.1 0 0 25) then
    ((f_X12_linkOf σ v1).bind fun r4 =>
    chk (inb r4 54) (
      chk (inb r4 54) (
        bnd (si σ 6 0 (Int32.toNatClampNeg r4) ((σ.1 6 0 (Int32.toNatClampNeg r4)) + 1)) fun σ5 =>
        K51 σ5 (v1 + 1))))
  else
    ((f_X12_moveStrays σ).bind fun σ7 =>
    (f_X12_setLetters σ7).bind fun σ9 =>
    (f_X12_setStrays σ9).bind fun σ11 =>
    bnd (si σ11 0 0 3 ((σ11.1 0 0 3) + 1)) fun σ12 =>
    some σ12)
def f_X12_cycle_L51 : Nat → St → Int32 → Option St
  | 0 => fun _ _ => none
  | n + 1 => f_X12_cycle_L51b (f_X12_cycle_L51 n)
def f_X12_cycle_L2b (K2 : St → Int32 → Option St) (σ : St) (v1 : Int32) : Option St :=
  if v1 < 8 then
    (chk (inb v1 8) (
      if (σ.1 9 0 (Int32.toNatClampNeg v1)) = 0 then
        K2 σ (v1 + 1)
      else
        (chk (inb v1 8) (
          chk (¬ (σ.1 0 0 2) = 0) (
            (f_X12_isBit (σ.1 17 0 (Int32.toNatClampNeg v1)) (remI (σ.1 0 0 3) (σ.1 0 0 2))).bind fun r1 =>
            if r1 = 0 then
              K2 σ (v1 + 1)
            else
              ((f_X12_leave σ v1).bind fun σ3 =>
              K2 σ3 (v1 + 1)))))))
  else
    f_X12_cycle_L51 FU σ 0
def f_X12_cycle_L2 : Nat → St → Int32 → Option St
  | 0 => fun _ _ => none
  | n + 1 => f_X12_cycle_L2b (f_X12_cycle_L2 n)
def f_X12_cycle (σ : St) : Option St :=
  f_X12_cycle_L2 FU σ 0
set_option maxHeartbeats 4000000 in
set_option maxRecDepth 100000 in
theorem l_X12_cycle_L51 {E : EV} {l : Launch} {D : va_G} {cy : Nat → ClassId} {Ad : Nat → Nat} {out : St × Option Value} {o : St} (hA : AdOK 37 Ad) (xl : XL E l D (AdA 37 Ad)) (g : XG E (wM cy Ad) cy cX12_cycle RX12 2 5 none out) (ho : out = (o, none)) : ∀ (n : Nat) (σ : St) (v1 : Int32), f_X12_cycle_L51 n σ v1 = some o → XJ E (wM cy Ad σ) 51 [(0, .ref (Ad 0)), (1, .int v1)] [] := by
  intro n
  induction n with
  | zero => intro _ _ hf; cases hf
  | succ n ih51 =>
    intro σ v1 hf
    replace hf : f_X12_cycle_L51b (f_X12_cycle_L51 n) σ v1 = some o := hf
    unfold f_X12_cycle_L51b at hf
    refine x_iload_n g 1 dX12_cycle_51 rfl rfl ?_
    refine x_aload_n g 0 dX12_cycle_52 rfl rfl ?_
    refine x_get g fl_X12_191 wm_0 rfl dX12_cycle_53 ?_
    refine x_icmp_ge g 79 dX12_cycle_56 (by decide) hf (fun c56 hf => ?_) (fun c56 hf => ?_)
    · refine x_aload_n g 0 dX12_cycle_59 rfl rfl ?_
      refine x_get g fl_X12_13 wm_0 rfl dX12_cycle_60 ?_
      refine x_aload_n g 0 dX12_cycle_63 rfl rfl ?_
      refine x_iload_n g 1 dX12_cycle_64 rfl rfl ?_
      obtain ⟨r4, hgr4, hf⟩ := obind hf
      refine x_callV (r := (RX12, TX12, 53)) g xl [.int v1] [.ref (Ad 2)] [.int r4, .ref (Ad 2)] (c_X12_linkOf hA hgr4) mf_X12_linkOf im_X12_linkOf se_X12_linkOf ml_X12_328 rfl wm_0 (by decide) (by decide) rfl (Nat.le_of_ble_eq_true rfl) dX12_cycle_65 rfl rfl ?_
      refine x_dup2 g dX12_cycle_68 rfl rfl ?_
      refine x_iald g wm_2 dX12_cycle_69 hf (fun hf => ?_)
      refine x_iconst g 1 dX12_cycle_70 (by decide) ?_
      refine x_iadd g dX12_cycle_71 ?_
      refine x_iastB g wm_2 (sm_2 _ _) dX12_cycle_72 hf (fun σ5 hf => ?_)
      refine x_iinc g 1 (v1 + 1) (lv' := [(1, .int (v1 + 1)), (0, .ref (Ad 0))]) dX12_cycle_73 rfl (by rfl) (by decide) rfl ?_
      refine x_goto g 51 dX12_cycle_76 (by decide) ?_
      exact x_sub [1, 0] rfl (ih51 _ _ hf)
    · refine x_aload_n g 0 dX12_cycle_79 rfl rfl ?_
      obtain ⟨σ7, hgr6, hf⟩ := obind hf
      refine x_callV (r := (RX12, TX12, 53)) g xl [] [] [] (c_X12_moveStrays hA hgr6) mf_X12_moveStrays im_X12_moveStrays se_X12_moveStrays ml_X12_352 rfl wm_0 (by decide) (by decide) rfl (Nat.le_of_ble_eq_true rfl) dX12_cycle_80 rfl rfl ?_
      refine x_aload_n g 0 dX12_cycle_83 rfl rfl ?_
      obtain ⟨σ9, hgr8, hf⟩ := obind hf
      refine x_callV (r := (RX12, TX12, 53)) g xl [] [] [] (c_X12_setLetters hA hgr8) mf_X12_setLetters im_X12_setLetters se_X12_setLetters ml_X12_355 rfl wm_0 (by decide) (by decide) rfl (Nat.le_of_ble_eq_true rfl) dX12_cycle_84 rfl rfl ?_
      refine x_aload_n g 0 dX12_cycle_87 rfl rfl ?_
      obtain ⟨σ11, hgr10, hf⟩ := obind hf
      refine x_callV (r := (RX12, TX12, 53)) g xl [] [] [] (c_X12_setStrays hA hgr10) mf_X12_setStrays im_X12_setStrays se_X12_setStrays ml_X12_358 rfl wm_0 (by decide) (by decide) rfl (Nat.le_of_ble_eq_true rfl) dX12_cycle_88 rfl rfl ?_
      refine x_aload_n g 0 dX12_cycle_91 rfl rfl ?_
      refine x_dup g dX12_cycle_92 rfl ?_
      refine x_get g fl_X12_188 wm_0 rfl dX12_cycle_93 ?_
      refine x_iconst g 1 dX12_cycle_96 (by decide) ?_
      refine x_iadd g dX12_cycle_97 ?_
      refine x_putB g tyX12 fl_X12_188 tyX12_ok nmX12 wm_0 rfl rfl rfl (Nat.le_of_ble_eq_true rfl) (sm_0_3 _) dX12_cycle_98 hf (fun σ12 hf => ?_)
      cases hf
      exact x_vret g rfl ho dX12_cycle_101
set_option maxHeartbeats 4000000 in
set_option maxRecDepth 100000 in
theorem l_X12_cycle_L2 {E : EV} {l : Launch} {D : va_G} {cy : Nat → ClassId} {Ad : Nat → Nat} {out : St × Option Value} {o : St} (hA : AdOK 37 Ad) (xl : XL E l D (AdA 37 Ad)) (g : XG E (wM cy Ad) cy cX12_cycle RX12 2 5 none out) (ho : out = (o, none)) : ∀ (n : Nat) (σ : St) (v1 : Int32), f_X12_cycle_L2 n σ v1 = some o → XJ E (wM cy Ad σ) 2 [(0, .ref (Ad 0)), (1, .int v1)] [] := by
  intro n
  induction n with
  | zero => intro _ _ hf; cases hf
  | succ n ih2 =>
    intro σ v1 hf
    replace hf : f_X12_cycle_L2b (f_X12_cycle_L2 n) σ v1 = some o := hf
    unfold f_X12_cycle_L2b at hf
    refine x_iload_n g 1 dX12_cycle_2 rfl rfl ?_
    refine x_bipush g 8 dX12_cycle_3 (by decide) ?_
    refine x_icmp_ge g 49 dX12_cycle_5 (by decide) hf (fun c5 hf => ?_) (fun c5 hf => ?_)
    · refine x_aload_n g 0 dX12_cycle_8 rfl rfl ?_
      refine x_get g fl_X12_20 wm_0 rfl dX12_cycle_9 ?_
      refine x_iload_n g 1 dX12_cycle_12 rfl rfl ?_
      refine x_zald g wm_4 dX12_cycle_13 hf (fun hf => ?_)
      refine x_if_eq g 43 dX12_cycle_14 (by decide) hf (fun c14 hf => ?_) (fun c14 hf => ?_)
      · refine x_iinc g 1 (v1 + 1) (lv' := [(1, .int (v1 + 1)), (0, .ref (Ad 0))]) dX12_cycle_43 rfl (by rfl) (by decide) rfl ?_
        refine x_goto g 2 dX12_cycle_46 (by decide) ?_
        exact x_sub [1, 0] rfl (ih2 _ _ hf)
      · refine x_aload_n g 0 dX12_cycle_17 rfl rfl ?_
        refine x_get g fl_X12_44 wm_0 rfl dX12_cycle_18 ?_
        refine x_iload_n g 1 dX12_cycle_21 rfl rfl ?_
        refine x_iald g wm_12 dX12_cycle_22 hf (fun hf => ?_)
        refine x_aload_n g 0 dX12_cycle_23 rfl rfl ?_
        refine x_get g fl_X12_188 wm_0 rfl dX12_cycle_24 ?_
        refine x_aload_n g 0 dX12_cycle_27 rfl rfl ?_
        refine x_get g fl_X12_185 wm_0 rfl dX12_cycle_28 ?_
        have hz := (chk_some hf).1
        replace hf := (chk_some hf).2
        refine x_irem g dX12_cycle_31 hz ?_
        obtain ⟨r1, hgr1, hf⟩ := obind hf
        refine x_callS g xl [.int (σ.1 17 0 (Int32.toNatClampNeg v1)), .int (remI (σ.1 0 0 3) (σ.1 0 0 2))] [] [.int r1] (c_X12_isBit hA hgr1) mf_X12_isBit sm_X12_isBit ml_X12_200 (by decide) (by decide) rfl (Nat.le_of_ble_eq_true rfl) dX12_cycle_32 rfl rfl ?_
        refine x_if_eq g 43 dX12_cycle_35 (by decide) hf (fun c35 hf => ?_) (fun c35 hf => ?_)
        · refine x_iinc g 1 (v1 + 1) (lv' := [(1, .int (v1 + 1)), (0, .ref (Ad 0))]) dX12_cycle_43 rfl (by rfl) (by decide) rfl ?_
          refine x_goto g 2 dX12_cycle_46 (by decide) ?_
          exact x_sub [1, 0] rfl (ih2 _ _ hf)
        · refine x_aload_n g 0 dX12_cycle_38 rfl rfl ?_
          refine x_iload_n g 1 dX12_cycle_39 rfl rfl ?_
          obtain ⟨σ3, hgr2, hf⟩ := obind hf
          refine x_callV (r := (RX12, TX12, 53)) g xl [.int v1] [] [] (c_X12_leave hA hgr2) mf_X12_leave im_X12_leave se_X12_leave ml_X12_349 rfl wm_0 (by decide) (by decide) rfl (Nat.le_of_ble_eq_true rfl) dX12_cycle_40 rfl rfl ?_
          refine x_iinc g 1 (v1 + 1) (lv' := [(1, .int (v1 + 1)), (0, .ref (Ad 0))]) dX12_cycle_43 rfl (by rfl) (by decide) rfl ?_
          refine x_goto g 2 dX12_cycle_46 (by decide) ?_
          exact x_sub [1, 0] rfl (ih2 _ _ hf)
    · refine x_iconst g 0 dX12_cycle_49 (by decide) ?_
      refine x_istore_n (lv' := [(1, .int 0), (0, .ref (Ad 0))]) g dX12_cycle_50 rfl (by decide) rfl ?_
      exact x_sub [1, 0] rfl (l_X12_cycle_L51 hA xl g ho FU _ _ hf)
set_option maxHeartbeats 4000000 in
set_option maxRecDepth 100000 in
theorem c_X12_cycle {l : Launch} {D : va_G} {cy : Nat → ClassId} {Ad : Nat → Nat} (hA : AdOK 37 Ad) {σ : St} {o : St} (hf : f_X12_cycle σ = some o) : CT l (wM cy Ad) D cy (AdA 37 Ad) yX12_cycle cX12_cycle 2 none 5 [.ref (Ad 0)] σ (o, none) := by
  refine CT.of mf_X12_cycle (wM_D hA) (Nat.le_of_ble_eq_true rfl) ?_
  intro E xl g
  have ho : ((o, none) : St × Option Value) = (o, none) := rfl
  unfold f_X12_cycle at hf
  show XJ E (wM cy Ad σ) 0 [(0, .ref (Ad 0))] []
  refine x_iconst g 0 dX12_cycle_0 (by decide) ?_
  refine x_istore_n (lv' := [(1, .int 0), (0, .ref (Ad 0))]) g dX12_cycle_1 rfl (by decide) rfl ?_
  exact x_sub [1, 0] rfl (l_X12_cycle_L2 hA xl g ho FU _ _ hf)
/-! SlotChipModel.run(I)I -/
def f_X12_run_L30b (v1 : Int32) (K30 : St → Int32 → Option (St × Int32)) (σ : St) (v2 : Int32) : Option (St × Int32) :=
  if v2 < v1 then
    ((f_X12_cycle σ).bind fun σ5 =>
    K30 σ5 (v2 + 1))
  else
    some (σ, (σ.1 0 0 50))
def f_X12_run_L30 (v1 : Int32) : Nat → St → Int32 → Option (St × Int32)
  | 0 => fun _ _ => none
  | n + 1 => f_X12_run_L30b v1 (f_X12_run_L30 v1 n)
def f_X12_run (σ : St) (p1 : Int32) : Option (St × Int32) :=
  (f_X12_within p1 1 40).bind fun r1 =>
  if r1 = 0 then
    some (σ, (-102))
  else
    ((f_X12_isChip σ).bind fun r2 =>
    if r2 = 0 then
      some (σ, (-103))
    else
      (bnd (si σ 0 0 50 0) fun σ3 =>
      f_X12_run_L30 p1 FU σ3 0))
set_option maxHeartbeats 4000000 in
set_option maxRecDepth 100000 in
theorem l_X12_run_L30 {E : EV} {l : Launch} {D : va_G} {cy : Nat → ClassId} {Ad : Nat → Nat} {out : St × Option Value} {o : (St × Int32)} (hA : AdOK 37 Ad) (xl : XL E l D (AdA 37 Ad)) (g : XG E (wM cy Ad) cy cX12_run RX12 3 6 (some .int) out) (v1 : Int32) (ho : out = (o.1, (some (.int o.2)))) : ∀ (n : Nat) (σ : St) (v2 : Int32), f_X12_run_L30 v1 n σ v2 = some o → XJ E (wM cy Ad σ) 30 [(0, .ref (Ad 0)), (1, .int v1), (2, .int v2)] [] := by
  intro n
  induction n with
  | zero => intro _ _ hf; cases hf
  | succ n ih30 =>
    intro σ v2 hf
    replace hf : f_X12_run_L30b v1 (f_X12_run_L30 v1 n) σ v2 = some o := hf
    unfold f_X12_run_L30b at hf
    refine x_iload_n g 2 dX12_run_30 rfl rfl ?_
    refine x_iload_n g 1 dX12_run_31 rfl rfl ?_
    refine x_icmp_ge g 45 dX12_run_32 (by decide) hf (fun c32 hf => ?_) (fun c32 hf => ?_)
    · refine x_aload_n g 0 dX12_run_35 rfl rfl ?_
      obtain ⟨σ5, hgr4, hf⟩ := obind hf
      refine x_callV (r := (RX12, TX12, 53)) g xl [] [] [] (c_X12_cycle hA hgr4) mf_X12_cycle im_X12_cycle se_X12_cycle ml_X12_361 rfl wm_0 (by decide) (by decide) rfl (Nat.le_of_ble_eq_true rfl) dX12_run_36 rfl rfl ?_
      refine x_iinc g 2 (v2 + 1) (lv' := [(2, .int (v2 + 1)), (0, .ref (Ad 0)), (1, .int v1)]) dX12_run_39 rfl (by rfl) (by decide) rfl ?_
      refine x_goto g 30 dX12_run_42 (by decide) ?_
      exact x_sub [1, 2, 0] rfl (ih30 _ _ hf)
    · refine x_aload_n g 0 dX12_run_45 rfl rfl ?_
      refine x_get g fl_X12_340 wm_0 rfl dX12_run_46 ?_
      cases hf
      exact x_iret g rfl ho dX12_run_49
set_option maxHeartbeats 4000000 in
set_option maxRecDepth 100000 in
theorem c_X12_run {l : Launch} {D : va_G} {cy : Nat → ClassId} {Ad : Nat → Nat} (hA : AdOK 37 Ad) {σ : St} {p1 : Int32} {o : (St × Int32)} (hf : f_X12_run σ p1 = some o) : CT l (wM cy Ad) D cy (AdA 37 Ad) yX12_run cX12_run 3 (some .int) 6 [.ref (Ad 0), .int p1] σ (o.1, (some (.int o.2))) := by
  refine CT.of mf_X12_run (wM_D hA) (Nat.le_of_ble_eq_true rfl) ?_
  intro E xl g
  have ho : ((o.1, (some (.int o.2))) : St × Option Value) = (o.1, (some (.int o.2))) := rfl
  unfold f_X12_run at hf
  show XJ E (wM cy Ad σ) 0 [(0, .ref (Ad 0)), (1, .int p1)] []
  refine x_iload_n g 1 dX12_run_0 rfl rfl ?_
  refine x_iconst g 1 dX12_run_1 (by decide) ?_
  refine x_bipush g 40 dX12_run_2 (by decide) ?_
  obtain ⟨r1, hgr1, hf⟩ := obind hf
  refine x_callS g xl [.int p1, .int 1, .int 40] [] [.int r1] (c_X12_within hA hgr1) mf_X12_within sm_X12_within ml_X12_130 (by decide) (by decide) rfl (Nat.le_of_ble_eq_true rfl) dX12_run_4 rfl rfl ?_
  refine x_if_ne g 13 dX12_run_7 (by decide) hf (fun c7 hf => ?_) (fun c7 hf => ?_)
  · refine x_bipush g (-102) dX12_run_10 (by decide) ?_
    cases hf
    exact x_iret g rfl ho dX12_run_12
  · refine x_aload_n g 0 dX12_run_13 rfl rfl ?_
    obtain ⟨r2, hgr2, hf⟩ := obind hf
    refine x_callV (r := (RX12, TX12, 53)) g xl [] [] [.int r2] (c_X12_isChip hA hgr2) mf_X12_isChip im_X12_isChip se_X12_isChip ml_X12_264 rfl wm_0 (by decide) (by decide) rfl (Nat.le_of_ble_eq_true rfl) dX12_run_14 rfl rfl ?_
    refine x_if_ne g 23 dX12_run_17 (by decide) hf (fun c17 hf => ?_) (fun c17 hf => ?_)
    · refine x_bipush g (-103) dX12_run_20 (by decide) ?_
      cases hf
      exact x_iret g rfl ho dX12_run_22
    · refine x_aload_n g 0 dX12_run_23 rfl rfl ?_
      refine x_iconst g 0 dX12_run_24 (by decide) ?_
      refine x_putB g tyX12 fl_X12_340 tyX12_ok nmX12 wm_0 rfl rfl rfl (Nat.le_of_ble_eq_true rfl) (sm_0_50 _) dX12_run_25 hf (fun σ3 hf => ?_)
      refine x_iconst g 0 dX12_run_28 (by decide) ?_
      refine x_istore_n (lv' := [(2, .int 0), (0, .ref (Ad 0)), (1, .int p1)]) g dX12_run_29 rfl (by decide) rfl ?_
      exact x_sub [1, 2, 0] rfl (l_X12_run_L30 hA xl g _ ho FU _ _ hf)
/-! SlotChipModel.drawOf(I)I -/
def f_X12_drawOf (σ : St) (p1 : Int32) : Option (St × Int32) :=
  bnd (sL σ 51 (remL ((1103515245 * (σ.2.2 51)) + 12345) 2147483648)) fun σ1 =>
  chk (¬ (Int32.toInt64 p1) = 0) (
    some (σ1, (Int64.toInt32 (remL ((σ1.2.2 51) / 65536) (Int32.toInt64 p1)))))
set_option maxHeartbeats 4000000 in
set_option maxRecDepth 100000 in
theorem c_X12_drawOf {l : Launch} {D : va_G} {cy : Nat → ClassId} {Ad : Nat → Nat} (hA : AdOK 37 Ad) {σ : St} {p1 : Int32} {o : (St × Int32)} (hf : f_X12_drawOf σ p1 = some o) : CT l (wM cy Ad) D cy (AdA 37 Ad) yX12_drawOf cX12_drawOf 2 (some .int) 0 [.ref (Ad 0), .int p1] σ (o.1, (some (.int o.2))) := by
  refine CT.of mf_X12_drawOf (wM_D hA) (Nat.le_of_ble_eq_true rfl) ?_
  intro E xl g
  have ho : ((o.1, (some (.int o.2))) : St × Option Value) = (o.1, (some (.int o.2))) := rfl
  unfold f_X12_drawOf at hf
  show XJ E (wM cy Ad σ) 0 [(0, .ref (Ad 0)), (1, .int p1)] []
  refine x_aload_n g 0 dX12_drawOf_0 rfl rfl ?_
  refine x_ldc2 g kl_X12_364 dX12_drawOf_1 ?_
  refine x_aload_n g 0 dX12_drawOf_4 rfl rfl ?_
  refine x_get g fl_X12_366 wm_0 rfl dX12_drawOf_5 ?_
  refine x_lmul g dX12_drawOf_8 ?_
  refine x_ldc2 g kl_X12_370 dX12_drawOf_9 ?_
  refine x_ladd g dX12_drawOf_12 ?_
  refine x_ldc2 g kl_X12_372 dX12_drawOf_13 ?_
  refine x_lrem g dX12_drawOf_16 (by decide) ?_
  refine x_putB g tyX12 fl_X12_366 tyX12_ok nmX12 wm_0 rfl rfl rfl (Nat.le_of_ble_eq_true rfl) (sm_0_51 _) dX12_drawOf_17 hf (fun σ1 hf => ?_)
  refine x_aload_n g 0 dX12_drawOf_20 rfl rfl ?_
  refine x_get g fl_X12_366 wm_0 rfl dX12_drawOf_21 ?_
  refine x_ldc2 g kl_X12_374 dX12_drawOf_24 ?_
  refine x_ldiv g dX12_drawOf_27 (by decide) ?_
  refine x_iload_n g 1 dX12_drawOf_28 rfl rfl ?_
  refine x_i2l g dX12_drawOf_29 ?_
  have hz := (chk_some hf).1
  replace hf := (chk_some hf).2
  refine x_lrem g dX12_drawOf_30 hz ?_
  refine x_l2i g dX12_drawOf_31 ?_
  cases hf
  exact x_iret g rfl ho dX12_drawOf_32
/-! SlotChipModel.storm(II)I -/
def f_X12_storm_L35b (v1 : Int32) (K35 : St → Int32 → Option (St × Int32)) (σ : St) (v3 : Int32) : Option (St × Int32) :=
  if v3 < v1 then
    (if (σ.1 0 0 30) < 12 then
      ((f_X12_routers σ).bind fun r4 =>
      (f_X12_drawOf σ r4).bind fun (σ6, r5) =>
      (f_X12_routers σ6).bind fun r7 =>
      (f_X12_drawOf σ6 r7).bind fun (σ9, r8) =>
      (f_X12_drawOf σ9 2).bind fun (σ11, r10) =>
      if r10 = 1 then
        ((f_X12_comes σ11 r5 r8 1).bind fun σ13 =>
        K35 σ13 (v3 + 1))
      else
        ((f_X12_comes σ11 r5 r8 0).bind fun σ15 =>
        K35 σ15 (v3 + 1)))
    else
      some (σ, v3))
  else
    some (σ, v3)
def f_X12_storm_L35 (v1 : Int32) : Nat → St → Int32 → Option (St × Int32)
  | 0 => fun _ _ => none
  | n + 1 => f_X12_storm_L35b v1 (f_X12_storm_L35 v1 n)
def f_X12_storm (σ : St) (p1 : Int32) (p2 : Int32) : Option (St × Int32) :=
  (f_X12_isChip σ).bind fun r1 =>
  if r1 = 0 then
    some (σ, (-103))
  else
    ((f_X12_within p1 1 12).bind fun r2 =>
    if r2 = 0 then
      some (σ, (-102))
    else
      (if p2 < 0 then
        some (σ, (-102))
      else
        (bnd (sL σ 51 (Int32.toInt64 p2)) fun σ3 =>
        f_X12_storm_L35 p1 FU σ3 0)))
set_option maxHeartbeats 4000000 in
set_option maxRecDepth 100000 in
theorem l_X12_storm_L35 {E : EV} {l : Launch} {D : va_G} {cy : Nat → ClassId} {Ad : Nat → Nat} {out : St × Option Value} {o : (St × Int32)} (hA : AdOK 37 Ad) (xl : XL E l D (AdA 37 Ad)) (g : XG E (wM cy Ad) cy cX12_storm RX12 6 1 (some .int) out) (v1 : Int32) (ho : out = (o.1, (some (.int o.2)))) : ∀ (n : Nat) (σ : St) (v3 : Int32), f_X12_storm_L35 v1 n σ v3 = some o → XJ E (wM cy Ad σ) 35 [(0, .ref (Ad 0)), (1, .int v1), (3, .int v3)] [] := by
  intro n
  induction n with
  | zero => intro _ _ hf; cases hf
  | succ n ih35 =>
    intro σ v3 hf
    replace hf : f_X12_storm_L35b v1 (f_X12_storm_L35 v1 n) σ v3 = some o := hf
    unfold f_X12_storm_L35b at hf
    refine x_iload_n g 2 dX12_storm_35 rfl rfl ?_
    refine x_iload_n g 1 dX12_storm_36 rfl rfl ?_
    refine x_icmp_ge g 97 dX12_storm_37 (by decide) hf (fun c37 hf => ?_) (fun c37 hf => ?_)
    · refine x_aload_n g 0 dX12_storm_40 rfl rfl ?_
      refine x_get g fl_X12_194 wm_0 rfl dX12_storm_41 ?_
      refine x_bipush g 12 dX12_storm_44 (by decide) ?_
      refine x_icmp_ge g 97 dX12_storm_46 (by decide) hf (fun c46 hf => ?_) (fun c46 hf => ?_)
      · refine x_aload_n g 0 dX12_storm_49 rfl rfl ?_
        refine x_aload_n g 0 dX12_storm_50 rfl rfl ?_
        obtain ⟨r4, hgr4, hf⟩ := obind hf
        refine x_callV (r := (RX12, TX12, 53)) g xl [] [.ref (Ad 0)] [.int r4, .ref (Ad 0)] (c_X12_routers hA hgr4) mf_X12_routers im_X12_routers se_X12_routers ml_X12_126 rfl wm_0 (by decide) (by decide) rfl (Nat.le_of_ble_eq_true rfl) dX12_storm_51 rfl rfl ?_
        obtain ⟨⟨σ6, r5⟩, hgr5, hf⟩ := obind hf
        refine x_callV (r := (RX12, TX12, 53)) g xl [.int r4] [] [.int r5] (c_X12_drawOf hA hgr5) mf_X12_drawOf im_X12_drawOf se_X12_drawOf ml_X12_376 rfl wm_0 (by decide) (by decide) rfl (Nat.le_of_ble_eq_true rfl) dX12_storm_54 rfl rfl ?_
        refine x_istore (lv' := [(4, .int r5), (0, .ref (Ad 0)), (1, .int v1), (3, .int v3)]) g dX12_storm_57 (by decide) rfl ?_
        refine x_aload_n g 1 dX12_storm_59 rfl rfl ?_
        refine x_aload_n g 1 dX12_storm_60 rfl rfl ?_
        obtain ⟨r7, hgr7, hf⟩ := obind hf
        refine x_callV (r := (RX12, TX12, 53)) g xl [] [.ref (Ad 0)] [.int r7, .ref (Ad 0)] (c_X12_routers hA hgr7) mf_X12_routers im_X12_routers se_X12_routers ml_X12_126 rfl wm_0 (by decide) (by decide) rfl (Nat.le_of_ble_eq_true rfl) dX12_storm_61 rfl rfl ?_
        obtain ⟨⟨σ9, r8⟩, hgr8, hf⟩ := obind hf
        refine x_callV (r := (RX12, TX12, 53)) g xl [.int r7] [] [.int r8] (c_X12_drawOf hA hgr8) mf_X12_drawOf im_X12_drawOf se_X12_drawOf ml_X12_376 rfl wm_0 (by decide) (by decide) rfl (Nat.le_of_ble_eq_true rfl) dX12_storm_64 rfl rfl ?_
        refine x_istore (lv' := [(5, .int r8), (4, .int r5), (0, .ref (Ad 0)), (1, .int v1), (3, .int v3)]) g dX12_storm_67 (by decide) rfl ?_
        refine x_aload_n g 2 dX12_storm_69 rfl rfl ?_
        refine x_iload g 1 dX12_storm_70 rfl ?_
        refine x_iload g 0 dX12_storm_72 rfl ?_
        refine x_aload_n g 2 dX12_storm_74 rfl rfl ?_
        refine x_iconst g 2 dX12_storm_75 (by decide) ?_
        obtain ⟨⟨σ11, r10⟩, hgr10, hf⟩ := obind hf
        refine x_callV (r := (RX12, TX12, 53)) g xl [.int 2] [.int r8, .int r5, .ref (Ad 0)] [.int r10, .int r8, .int r5, .ref (Ad 0)] (c_X12_drawOf hA hgr10) mf_X12_drawOf im_X12_drawOf se_X12_drawOf ml_X12_376 rfl wm_0 (by decide) (by decide) rfl (Nat.le_of_ble_eq_true rfl) dX12_storm_76 rfl rfl ?_
        refine x_iconst g 1 dX12_storm_79 (by decide) ?_
        refine x_icmp_ne g 87 dX12_storm_80 (by decide) hf (fun c80 hf => ?_) (fun c80 hf => ?_)
        · refine x_iconst g 1 dX12_storm_83 (by decide) ?_
          refine x_goto g 88 dX12_storm_84 (by decide) ?_
          obtain ⟨σ13, hgr12, hf⟩ := obind hf
          refine x_callV (r := (RX12, TX12, 53)) g xl [.int r5, .int r8, .int 1] [] [] (c_X12_comes hA hgr12) mf_X12_comes im_X12_comes se_X12_comes ml_X12_312 rfl wm_0 (by decide) (by decide) rfl (Nat.le_of_ble_eq_true rfl) dX12_storm_88 rfl rfl ?_
          refine x_iinc g 4 (v3 + 1) (lv' := [(3, .int (v3 + 1)), (5, .int r8), (4, .int r5), (0, .ref (Ad 0)), (1, .int v1)]) dX12_storm_91 rfl (by rfl) (by decide) rfl ?_
          refine x_goto g 35 dX12_storm_94 (by decide) ?_
          exact x_sub [3, 4, 0] rfl (ih35 _ _ hf)
        · refine x_iconst g 0 dX12_storm_87 (by decide) ?_
          obtain ⟨σ15, hgr14, hf⟩ := obind hf
          refine x_callV (r := (RX12, TX12, 53)) g xl [.int r5, .int r8, .int 0] [] [] (c_X12_comes hA hgr14) mf_X12_comes im_X12_comes se_X12_comes ml_X12_312 rfl wm_0 (by decide) (by decide) rfl (Nat.le_of_ble_eq_true rfl) dX12_storm_88 rfl rfl ?_
          refine x_iinc g 4 (v3 + 1) (lv' := [(3, .int (v3 + 1)), (5, .int r8), (4, .int r5), (0, .ref (Ad 0)), (1, .int v1)]) dX12_storm_91 rfl (by rfl) (by decide) rfl ?_
          refine x_goto g 35 dX12_storm_94 (by decide) ?_
          exact x_sub [3, 4, 0] rfl (ih35 _ _ hf)
      · refine x_iload_n g 2 dX12_storm_97 rfl rfl ?_
        cases hf
        exact x_iret g rfl ho dX12_storm_98
    · refine x_iload_n g 2 dX12_storm_97 rfl rfl ?_
      cases hf
      exact x_iret g rfl ho dX12_storm_98
set_option maxHeartbeats 4000000 in
set_option maxRecDepth 100000 in
theorem c_X12_storm {l : Launch} {D : va_G} {cy : Nat → ClassId} {Ad : Nat → Nat} (hA : AdOK 37 Ad) {σ : St} {p1 : Int32} {p2 : Int32} {o : (St × Int32)} (hf : f_X12_storm σ p1 p2 = some o) : CT l (wM cy Ad) D cy (AdA 37 Ad) yX12_storm cX12_storm 6 (some .int) 1 [.ref (Ad 0), .int p1, .int p2] σ (o.1, (some (.int o.2))) := by
  refine CT.of mf_X12_storm (wM_D hA) (Nat.le_of_ble_eq_true rfl) ?_
  intro E xl g
  have ho : ((o.1, (some (.int o.2))) : St × Option Value) = (o.1, (some (.int o.2))) := rfl
  unfold f_X12_storm at hf
  show XJ E (wM cy Ad σ) 0 [(0, .ref (Ad 0)), (1, .int p1), (2, .int p2)] []
  refine x_aload_n g 0 dX12_storm_0 rfl rfl ?_
  obtain ⟨r1, hgr1, hf⟩ := obind hf
  refine x_callV (r := (RX12, TX12, 53)) g xl [] [] [.int r1] (c_X12_isChip hA hgr1) mf_X12_isChip im_X12_isChip se_X12_isChip ml_X12_264 rfl wm_0 (by decide) (by decide) rfl (Nat.le_of_ble_eq_true rfl) dX12_storm_1 rfl rfl ?_
  refine x_if_ne g 10 dX12_storm_4 (by decide) hf (fun c4 hf => ?_) (fun c4 hf => ?_)
  · refine x_bipush g (-103) dX12_storm_7 (by decide) ?_
    cases hf
    exact x_iret g rfl ho dX12_storm_9
  · refine x_iload_n g 1 dX12_storm_10 rfl rfl ?_
    refine x_iconst g 1 dX12_storm_11 (by decide) ?_
    refine x_bipush g 12 dX12_storm_12 (by decide) ?_
    obtain ⟨r2, hgr2, hf⟩ := obind hf
    refine x_callS g xl [.int p1, .int 1, .int 12] [] [.int r2] (c_X12_within hA hgr2) mf_X12_within sm_X12_within ml_X12_130 (by decide) (by decide) rfl (Nat.le_of_ble_eq_true rfl) dX12_storm_14 rfl rfl ?_
    refine x_if_eq g 24 dX12_storm_17 (by decide) hf (fun c17 hf => ?_) (fun c17 hf => ?_)
    · refine x_bipush g (-102) dX12_storm_24 (by decide) ?_
      cases hf
      exact x_iret g rfl ho dX12_storm_26
    · refine x_iload_n g 2 dX12_storm_20 rfl rfl ?_
      refine x_if_ge g 27 dX12_storm_21 (by decide) hf (fun c21 hf => ?_) (fun c21 hf => ?_)
      · refine x_bipush g (-102) dX12_storm_24 (by decide) ?_
        cases hf
        exact x_iret g rfl ho dX12_storm_26
      · refine x_aload_n g 0 dX12_storm_27 rfl rfl ?_
        refine x_iload_n g 2 dX12_storm_28 rfl rfl ?_
        refine x_i2l g dX12_storm_29 ?_
        refine x_putB g tyX12 fl_X12_366 tyX12_ok nmX12 wm_0 rfl rfl rfl (Nat.le_of_ble_eq_true rfl) (sm_0_51 _) dX12_storm_30 hf (fun σ3 hf => ?_)
        refine x_iconst g 0 dX12_storm_33 (by decide) ?_
        refine x_istore_n (lv' := [(3, .int 0), (0, .ref (Ad 0)), (1, .int p1), (2, .int p2)]) g dX12_storm_34 rfl (by decide) rfl ?_
        exact x_sub [1, 2, 0] rfl (l_X12_storm_L35 hA xl g _ ho FU _ _ hf)
/-! SlotChipModel.sumOf(I)I -/
def f_X12_sumOf_L4b (σ : St) (v1 : Int32) (K4 : Int32 → Int32 → Option Int32) (v2 : Int32) (v3 : Int32) : Option Int32 :=
  if v3 < 8 then
    (chk (inb v3 8) (
      if (σ.1 9 0 (Int32.toNatClampNeg v3)) = 0 then
        K4 v2 (v3 + 1)
      else
        (if v1 = 0 then
          K4 (v2 + 1) (v3 + 1)
        else
          (if v1 = 3 then
            (chk (inb v3 8) (
              bnd (v2 + (σ.1 18 0 (Int32.toNatClampNeg v3))) fun y1 =>
              K4 y1 (v3 + 1)))
          else
            (chk (inb v3 8) (
              bnd (v2 + (σ.1 22 0 (Int32.toNatClampNeg v3))) fun y2 =>
              K4 y2 (v3 + 1)))))))
  else
    some v2
def f_X12_sumOf_L4 (σ : St) (v1 : Int32) : Nat → Int32 → Int32 → Option Int32
  | 0 => fun _ _ => none
  | n + 1 => f_X12_sumOf_L4b σ v1 (f_X12_sumOf_L4 σ v1 n)
def f_X12_sumOf (σ : St) (p1 : Int32) : Option Int32 :=
  f_X12_sumOf_L4 σ p1 FU 0 0
set_option maxHeartbeats 4000000 in
set_option maxRecDepth 100000 in
theorem l_X12_sumOf_L4 {E : EV} {l : Launch} {D : va_G} {cy : Nat → ClassId} {Ad : Nat → Nat} {out : St × Option Value} {o : Int32} (hA : AdOK 37 Ad) (xl : XL E l D (AdA 37 Ad)) (g : XG E (wM cy Ad) cy cX12_sumOf RX12 4 0 (some .int) out) (σ : St) (v1 : Int32) (ho : out = (σ, (some (.int o)))) : ∀ (n : Nat) (v2 : Int32) (v3 : Int32), f_X12_sumOf_L4 σ v1 n v2 v3 = some o → XJ E (wM cy Ad σ) 4 [(0, .ref (Ad 0)), (1, .int v1), (2, .int v2), (3, .int v3)] [] := by
  intro n
  induction n with
  | zero => intro _ _ hf; cases hf
  | succ n ih4 =>
    intro v2 v3 hf
    replace hf : f_X12_sumOf_L4b σ v1 (f_X12_sumOf_L4 σ v1 n) v2 v3 = some o := hf
    unfold f_X12_sumOf_L4b at hf
    refine x_iload_n g 3 dX12_sumOf_4 rfl rfl ?_
    refine x_bipush g 8 dX12_sumOf_5 (by decide) ?_
    refine x_icmp_ge g 56 dX12_sumOf_7 (by decide) hf (fun c7 hf => ?_) (fun c7 hf => ?_)
    · refine x_aload_n g 0 dX12_sumOf_10 rfl rfl ?_
      refine x_get g fl_X12_20 wm_0 rfl dX12_sumOf_11 ?_
      refine x_iload_n g 3 dX12_sumOf_14 rfl rfl ?_
      refine x_zald g wm_4 dX12_sumOf_15 hf (fun hf => ?_)
      refine x_if_eq g 50 dX12_sumOf_16 (by decide) hf (fun c16 hf => ?_) (fun c16 hf => ?_)
      · refine x_iinc g 3 (v3 + 1) (lv' := [(3, .int (v3 + 1)), (0, .ref (Ad 0)), (1, .int v1), (2, .int v2)]) dX12_sumOf_50 rfl (by rfl) (by decide) rfl ?_
        refine x_goto g 4 dX12_sumOf_53 (by decide) ?_
        exact x_sub [1, 2, 3, 0] rfl (ih4 _ _ hf)
      · refine x_iload_n g 2 dX12_sumOf_19 rfl rfl ?_
        refine x_iload_n g 1 dX12_sumOf_20 rfl rfl ?_
        refine x_if_ne g 28 dX12_sumOf_21 (by decide) hf (fun c21 hf => ?_) (fun c21 hf => ?_)
        · refine x_iconst g 1 dX12_sumOf_24 (by decide) ?_
          refine x_goto g 48 dX12_sumOf_25 (by decide) ?_
          refine x_iadd g dX12_sumOf_48 ?_
          refine x_istore_n (lv' := [(2, .int (v2 + 1)), (0, .ref (Ad 0)), (1, .int v1), (3, .int v3)]) g dX12_sumOf_49 rfl (by decide) rfl ?_
          refine x_iinc g 3 (v3 + 1) (lv' := [(3, .int (v3 + 1)), (2, .int (v2 + 1)), (0, .ref (Ad 0)), (1, .int v1)]) dX12_sumOf_50 rfl (by rfl) (by decide) rfl ?_
          refine x_goto g 4 dX12_sumOf_53 (by decide) ?_
          exact x_sub [2, 3, 1, 0] rfl (ih4 _ _ hf)
        · refine x_iload_n g 1 dX12_sumOf_28 rfl rfl ?_
          refine x_iconst g 3 dX12_sumOf_29 (by decide) ?_
          refine x_icmp_ne g 42 dX12_sumOf_30 (by decide) hf (fun c30 hf => ?_) (fun c30 hf => ?_)
          · refine x_aload_n g 0 dX12_sumOf_33 rfl rfl ?_
            refine x_get g fl_X12_47 wm_0 rfl dX12_sumOf_34 ?_
            refine x_iload_n g 3 dX12_sumOf_37 rfl rfl ?_
            refine x_iald g wm_13 dX12_sumOf_38 hf (fun hf => ?_)
            refine x_goto g 48 dX12_sumOf_39 (by decide) ?_
            refine x_iadd g dX12_sumOf_48 ?_
            refine x_nami hf (fun y1 hf => ?_)
            refine x_istore_n (lv' := [(2, .int y1), (0, .ref (Ad 0)), (1, .int v1), (3, .int v3)]) g dX12_sumOf_49 rfl (by decide) rfl ?_
            refine x_iinc g 3 (v3 + 1) (lv' := [(3, .int (v3 + 1)), (2, .int y1), (0, .ref (Ad 0)), (1, .int v1)]) dX12_sumOf_50 rfl (by rfl) (by decide) rfl ?_
            refine x_goto g 4 dX12_sumOf_53 (by decide) ?_
            exact x_sub [2, 3, 1, 0] rfl (ih4 _ _ hf)
          · refine x_aload_n g 0 dX12_sumOf_42 rfl rfl ?_
            refine x_get g fl_X12_59 wm_0 rfl dX12_sumOf_43 ?_
            refine x_iload_n g 3 dX12_sumOf_46 rfl rfl ?_
            refine x_iald g wm_17 dX12_sumOf_47 hf (fun hf => ?_)
            refine x_iadd g dX12_sumOf_48 ?_
            refine x_nami hf (fun y2 hf => ?_)
            refine x_istore_n (lv' := [(2, .int y2), (0, .ref (Ad 0)), (1, .int v1), (3, .int v3)]) g dX12_sumOf_49 rfl (by decide) rfl ?_
            refine x_iinc g 3 (v3 + 1) (lv' := [(3, .int (v3 + 1)), (2, .int y2), (0, .ref (Ad 0)), (1, .int v1)]) dX12_sumOf_50 rfl (by rfl) (by decide) rfl ?_
            refine x_goto g 4 dX12_sumOf_53 (by decide) ?_
            exact x_sub [2, 3, 1, 0] rfl (ih4 _ _ hf)
    · refine x_iload_n g 2 dX12_sumOf_56 rfl rfl ?_
      cases hf
      exact x_iret g rfl ho dX12_sumOf_57
set_option maxHeartbeats 4000000 in
set_option maxRecDepth 100000 in
theorem c_X12_sumOf {l : Launch} {D : va_G} {cy : Nat → ClassId} {Ad : Nat → Nat} (hA : AdOK 37 Ad) {σ : St} {p1 : Int32} {o : Int32} (hf : f_X12_sumOf σ p1 = some o) : CT l (wM cy Ad) D cy (AdA 37 Ad) yX12_sumOf cX12_sumOf 4 (some .int) 0 [.ref (Ad 0), .int p1] σ (σ, (some (.int o))) := by
  refine CT.of mf_X12_sumOf (wM_D hA) (Nat.le_of_ble_eq_true rfl) ?_
  intro E xl g
  have ho : ((σ, (some (.int o))) : St × Option Value) = (σ, (some (.int o))) := rfl
  unfold f_X12_sumOf at hf
  show XJ E (wM cy Ad σ) 0 [(0, .ref (Ad 0)), (1, .int p1)] []
  refine x_iconst g 0 dX12_sumOf_0 (by decide) ?_
  refine x_istore_n (lv' := [(2, .int 0), (0, .ref (Ad 0)), (1, .int p1)]) g dX12_sumOf_1 rfl (by decide) rfl ?_
  refine x_iconst g 0 dX12_sumOf_2 (by decide) ?_
  refine x_istore_n (lv' := [(3, .int 0), (2, .int 0), (0, .ref (Ad 0)), (1, .int p1)]) g dX12_sumOf_3 rfl (by decide) rfl ?_
  exact x_sub [2, 3, 1, 0] rfl (l_X12_sumOf_L4 hA xl g _ _ ho FU _ _ hf)
/-! SlotChipModel.howMany(I)I -/
def f_X12_howMany (σ : St) (p1 : Int32) : Option Int32 :=
  if p1 = 0 then
    ((f_X12_sumOf σ p1).bind fun r1 =>
    some r1)
  else
    (if p1 = 1 then
      some (σ.1 0 0 25)
    else
      (if p1 = 2 then
        some (σ.1 0 0 30)
      else
        (if p1 = 3 then
          ((f_X12_sumOf σ p1).bind fun r2 =>
          some r2)
        else
          (if p1 = 4 then
            ((f_X12_sumOf σ p1).bind fun r3 =>
            some r3)
          else
            (if p1 = 5 then
              some (σ.1 0 0 7)
            else
              (if p1 = 6 then
                some (σ.1 0 0 4)
              else
                some (-102)))))))
set_option maxHeartbeats 4000000 in
set_option maxRecDepth 100000 in
theorem c_X12_howMany {l : Launch} {D : va_G} {cy : Nat → ClassId} {Ad : Nat → Nat} (hA : AdOK 37 Ad) {σ : St} {p1 : Int32} {o : Int32} (hf : f_X12_howMany σ p1 = some o) : CT l (wM cy Ad) D cy (AdA 37 Ad) yX12_howMany cX12_howMany 2 (some .int) 1 [.ref (Ad 0), .int p1] σ (σ, (some (.int o))) := by
  refine CT.of mf_X12_howMany (wM_D hA) (Nat.le_of_ble_eq_true rfl) ?_
  intro E xl g
  have ho : ((σ, (some (.int o))) : St × Option Value) = (σ, (some (.int o))) := rfl
  unfold f_X12_howMany at hf
  show XJ E (wM cy Ad σ) 0 [(0, .ref (Ad 0)), (1, .int p1)] []
  refine x_iload_n g 1 dX12_howMany_0 rfl rfl ?_
  refine sp hf (fun n_1_0 hf => ?_) (fun n_1_0 hf => ?_)
  · refine x_tin g 0 43 44 dX12_howMany_1 n_1_0 (by decide) ?_
    refine x_aload_n g 0 dX12_howMany_44 rfl rfl ?_
    refine x_iload_n g 1 dX12_howMany_45 rfl rfl ?_
    obtain ⟨r1, hgr1, hf⟩ := obind hf
    refine x_callV (r := (RX12, TX12, 53)) g xl [.int p1] [] [.int r1] (c_X12_sumOf hA hgr1) mf_X12_sumOf im_X12_sumOf se_X12_sumOf ml_X12_379 rfl wm_0 (by decide) (by decide) rfl (Nat.le_of_ble_eq_true rfl) dX12_howMany_46 rfl rfl ?_
    cases hf
    exact x_iret g rfl ho dX12_howMany_49
  · refine sp hf (fun n_1_1 hf => ?_) (fun n_1_1 hf => ?_)
    · refine x_tin g 1 49 50 dX12_howMany_1 n_1_1 (by decide) ?_
      refine x_aload_n g 0 dX12_howMany_50 rfl rfl ?_
      refine x_get g fl_X12_191 wm_0 rfl dX12_howMany_51 ?_
      cases hf
      exact x_iret g rfl ho dX12_howMany_54
    · refine sp hf (fun n_1_2 hf => ?_) (fun n_1_2 hf => ?_)
      · refine x_tin g 2 54 55 dX12_howMany_1 n_1_2 (by decide) ?_
        refine x_aload_n g 0 dX12_howMany_55 rfl rfl ?_
        refine x_get g fl_X12_194 wm_0 rfl dX12_howMany_56 ?_
        cases hf
        exact x_iret g rfl ho dX12_howMany_59
      · refine sp hf (fun n_1_3 hf => ?_) (fun n_1_3 hf => ?_)
        · refine x_tin g 3 43 44 dX12_howMany_1 n_1_3 (by decide) ?_
          refine x_aload_n g 0 dX12_howMany_44 rfl rfl ?_
          refine x_iload_n g 1 dX12_howMany_45 rfl rfl ?_
          obtain ⟨r2, hgr2, hf⟩ := obind hf
          refine x_callV (r := (RX12, TX12, 53)) g xl [.int p1] [] [.int r2] (c_X12_sumOf hA hgr2) mf_X12_sumOf im_X12_sumOf se_X12_sumOf ml_X12_379 rfl wm_0 (by decide) (by decide) rfl (Nat.le_of_ble_eq_true rfl) dX12_howMany_46 rfl rfl ?_
          cases hf
          exact x_iret g rfl ho dX12_howMany_49
        · refine sp hf (fun n_1_4 hf => ?_) (fun n_1_4 hf => ?_)
          · refine x_tin g 4 43 44 dX12_howMany_1 n_1_4 (by decide) ?_
            refine x_aload_n g 0 dX12_howMany_44 rfl rfl ?_
            refine x_iload_n g 1 dX12_howMany_45 rfl rfl ?_
            obtain ⟨r3, hgr3, hf⟩ := obind hf
            refine x_callV (r := (RX12, TX12, 53)) g xl [.int p1] [] [.int r3] (c_X12_sumOf hA hgr3) mf_X12_sumOf im_X12_sumOf se_X12_sumOf ml_X12_379 rfl wm_0 (by decide) (by decide) rfl (Nat.le_of_ble_eq_true rfl) dX12_howMany_46 rfl rfl ?_
            cases hf
            exact x_iret g rfl ho dX12_howMany_49
          · refine sp hf (fun n_1_5 hf => ?_) (fun n_1_5 hf => ?_)
            · refine x_tin g 5 59 60 dX12_howMany_1 n_1_5 (by decide) ?_
              refine x_aload_n g 0 dX12_howMany_60 rfl rfl ?_
              refine x_get g fl_X12_138 wm_0 rfl dX12_howMany_61 ?_
              cases hf
              exact x_iret g rfl ho dX12_howMany_64
            · refine sp hf (fun n_1_6 hf => ?_) (fun n_1_6 hf => ?_)
              · refine x_tin g 6 64 65 dX12_howMany_1 n_1_6 (by decide) ?_
                refine x_aload_n g 0 dX12_howMany_65 rfl rfl ?_
                refine x_get g fl_X12_197 wm_0 rfl dX12_howMany_66 ?_
                cases hf
                exact x_iret g rfl ho dX12_howMany_69
              · refine x_tout g 70 dX12_howMany_1 (by have e0 := tI n_1_0 (by decide : (0 : Int32).toInt = 0); have e1 := tI n_1_1 (by decide : (1 : Int32).toInt = 1); have e2 := tI n_1_2 (by decide : (2 : Int32).toInt = 2); have e3 := tI n_1_3 (by decide : (3 : Int32).toInt = 3); have e4 := tI n_1_4 (by decide : (4 : Int32).toInt = 4); have e5 := tI n_1_5 (by decide : (5 : Int32).toInt = 5); have e6 := tI n_1_6 (by decide : (6 : Int32).toInt = 6); omega) (by decide) ?_
                refine x_bipush g (-102) dX12_howMany_70 (by decide) ?_
                cases hf
                exact x_iret g rfl ho dX12_howMany_72
/-! SlotChipModel.count(I)I -/
def f_X12_count (σ : St) (p1 : Int32) : Option Int32 :=
  (f_X12_howMany σ p1).bind fun r1 =>
  some r1
set_option maxHeartbeats 4000000 in
set_option maxRecDepth 100000 in
theorem c_X12_count {l : Launch} {D : va_G} {cy : Nat → ClassId} {Ad : Nat → Nat} (hA : AdOK 37 Ad) {σ : St} {p1 : Int32} {o : Int32} (hf : f_X12_count σ p1 = some o) : CT l (wM cy Ad) D cy (AdA 37 Ad) yX12_count cX12_count 2 (some .int) 2 [.ref (Ad 0), .int p1] σ (σ, (some (.int o))) := by
  refine CT.of mf_X12_count (wM_D hA) (Nat.le_of_ble_eq_true rfl) ?_
  intro E xl g
  have ho : ((σ, (some (.int o))) : St × Option Value) = (σ, (some (.int o))) := rfl
  unfold f_X12_count at hf
  show XJ E (wM cy Ad σ) 0 [(0, .ref (Ad 0)), (1, .int p1)] []
  refine x_aload_n g 0 dX12_count_0 rfl rfl ?_
  refine x_iload_n g 1 dX12_count_1 rfl rfl ?_
  obtain ⟨r1, hgr1, hf⟩ := obind hf
  refine x_callV (r := (RX12, TX12, 53)) g xl [.int p1] [] [.int r1] (c_X12_howMany hA hgr1) mf_X12_howMany im_X12_howMany se_X12_howMany ml_X12_382 rfl wm_0 (by decide) (by decide) rfl (Nat.le_of_ble_eq_true rfl) dX12_count_2 rfl rfl ?_
  cases hf
  exact x_iret g rfl ho dX12_count_5
/-! SlotChipModel.mix(J)V -/
def f_X12_mix (σ : St) (p1 : Int64) : Option St :=
  bnd (sL σ 52 ((31 * (σ.2.2 52)) + p1)) fun σ1 =>
  some σ1
set_option maxHeartbeats 4000000 in
set_option maxRecDepth 100000 in
theorem c_X12_mix {l : Launch} {D : va_G} {cy : Nat → ClassId} {Ad : Nat → Nat} (hA : AdOK 37 Ad) {σ : St} {p1 : Int64} {o : St} (hf : f_X12_mix σ p1 = some o) : CT l (wM cy Ad) D cy (AdA 37 Ad) yX12_mix cX12_mix 3 none 0 [.ref (Ad 0), .long p1] σ (o, none) := by
  refine CT.of mf_X12_mix (wM_D hA) (Nat.le_of_ble_eq_true rfl) ?_
  intro E xl g
  have ho : ((o, none) : St × Option Value) = (o, none) := rfl
  unfold f_X12_mix at hf
  show XJ E (wM cy Ad σ) 0 [(0, .ref (Ad 0)), (1, .long p1)] []
  refine x_aload_n g 0 dX12_mix_0 rfl rfl ?_
  refine x_ldc2 g kl_X12_385 dX12_mix_1 ?_
  refine x_aload_n g 0 dX12_mix_4 rfl rfl ?_
  refine x_get g fl_X12_387 wm_0 rfl dX12_mix_5 ?_
  refine x_lmul g dX12_mix_8 ?_
  refine x_lload_n g 1 dX12_mix_9 rfl rfl ?_
  refine x_ladd g dX12_mix_10 ?_
  refine x_putB g tyX12 fl_X12_387 tyX12_ok nmX12 wm_0 rfl rfl rfl (Nat.le_of_ble_eq_true rfl) (sm_0_52 _) dX12_mix_11 hf (fun σ1 hf => ?_)
  cases hf
  exact x_vret g rfl ho dX12_mix_14
/-! SlotChipModel.mixChip()V -/
def f_X12_mixChip_L34b (K26 : St → Int32 → Option St) (v1 : Int32) (K34 : St → Int32 → Option St) (σ : St) (v2 : Int32) : Option St :=
  if v2 < 4 then
    ((f_X12_isLink σ v1).bind fun r4 =>
    if r4 = 0 then
      K26 σ (v1 + 1)
    else
      ((f_X12_linkNow σ v1 v2).bind fun r5 =>
      (f_X12_mix σ (Int32.toInt64 r5)).bind fun σ7 =>
      K34 σ7 (v2 + 1)))
  else
    K26 σ (v1 + 1)
def f_X12_mixChip_L34 (K26 : St → Int32 → Option St) (v1 : Int32) : Nat → St → Int32 → Option St
  | 0 => fun _ _ => none
  | n + 1 => f_X12_mixChip_L34b K26 v1 (f_X12_mixChip_L34 K26 v1 n)
def f_X12_mixChip_L26b (K26 : St → Int32 → Option St) (σ : St) (v1 : Int32) : Option St :=
  if v1 < 54 then
    f_X12_mixChip_L34 K26 v1 FU σ 0
  else
    some σ
def f_X12_mixChip_L26 : Nat → St → Int32 → Option St
  | 0 => fun _ _ => none
  | n + 1 => f_X12_mixChip_L26b (f_X12_mixChip_L26 n)
def f_X12_mixChip_L2b (K2 : St → Int32 → Option St) (σ : St) (v1 : Int32) : Option St :=
  if v1 < 8 then
    ((f_X12_aboutNow σ v1).bind fun r1 =>
    (f_X12_mix σ (Int32.toInt64 r1)).bind fun σ3 =>
    K2 σ3 (v1 + 1))
  else
    f_X12_mixChip_L26 FU σ 0
def f_X12_mixChip_L2 : Nat → St → Int32 → Option St
  | 0 => fun _ _ => none
  | n + 1 => f_X12_mixChip_L2b (f_X12_mixChip_L2 n)
def f_X12_mixChip (σ : St) : Option St :=
  f_X12_mixChip_L2 FU σ 0
set_option maxHeartbeats 4000000 in
set_option maxRecDepth 100000 in
theorem l_X12_mixChip_L34 {E : EV} {l : Launch} {D : va_G} {cy : Nat → ClassId} {Ad : Nat → Nat} {out : St × Option Value} {o : St} (hA : AdOK 37 Ad) (xl : XL E l D (AdA 37 Ad)) (g : XG E (wM cy Ad) cy cX12_mixChip RX12 3 6 none out) {K26 : St → Int32 → Option St} (v1 : Int32) (ho : out = (o, none)) (ih26 : ∀ (σ : St) (v1 : Int32), K26 σ v1 = some o → XJ E (wM cy Ad σ) 26 [(0, .ref (Ad 0)), (1, .int v1)] []) : ∀ (n : Nat) (σ : St) (v2 : Int32), f_X12_mixChip_L34 K26 v1 n σ v2 = some o → XJ E (wM cy Ad σ) 34 [(0, .ref (Ad 0)), (1, .int v1), (2, .int v2)] [] := by
  intro n
  induction n with
  | zero => intro _ _ hf; cases hf
  | succ n ih34 =>
    intro σ v2 hf
    replace hf : f_X12_mixChip_L34b K26 v1 (f_X12_mixChip_L34 K26 v1 n) σ v2 = some o := hf
    unfold f_X12_mixChip_L34b at hf
    refine x_iload_n g 2 dX12_mixChip_34 rfl rfl ?_
    refine x_iconst g 4 dX12_mixChip_35 (by decide) ?_
    refine x_icmp_ge g 64 dX12_mixChip_36 (by decide) hf (fun c36 hf => ?_) (fun c36 hf => ?_)
    · refine x_aload_n g 0 dX12_mixChip_39 rfl rfl ?_
      refine x_iload_n g 1 dX12_mixChip_40 rfl rfl ?_
      obtain ⟨r4, hgr4, hf⟩ := obind hf
      refine x_callV (r := (RX12, TX12, 53)) g xl [.int v1] [] [.int r4] (c_X12_isLink hA hgr4) mf_X12_isLink im_X12_isLink se_X12_isLink ml_X12_246 rfl wm_0 (by decide) (by decide) rfl (Nat.le_of_ble_eq_true rfl) dX12_mixChip_41 rfl rfl ?_
      refine x_if_eq g 64 dX12_mixChip_44 (by decide) hf (fun c44 hf => ?_) (fun c44 hf => ?_)
      · refine x_iinc g 1 (v1 + 1) (lv' := [(1, .int (v1 + 1)), (0, .ref (Ad 0)), (2, .int v2)]) dX12_mixChip_64 rfl (by rfl) (by decide) rfl ?_
        refine x_goto g 26 dX12_mixChip_67 (by decide) ?_
        exact x_sub [1, 0] rfl (ih26 _ _ hf)
      · refine x_aload_n g 0 dX12_mixChip_47 rfl rfl ?_
        refine x_aload_n g 0 dX12_mixChip_48 rfl rfl ?_
        refine x_iload_n g 1 dX12_mixChip_49 rfl rfl ?_
        refine x_iload_n g 2 dX12_mixChip_50 rfl rfl ?_
        obtain ⟨r5, hgr5, hf⟩ := obind hf
        refine x_callV (r := (RX12, TX12, 53)) g xl [.int v1, .int v2] [.ref (Ad 0)] [.int r5, .ref (Ad 0)] (c_X12_linkNow hA hgr5) mf_X12_linkNow im_X12_linkNow se_X12_linkNow ml_X12_270 rfl wm_0 (by decide) (by decide) rfl (Nat.le_of_ble_eq_true rfl) dX12_mixChip_51 rfl rfl ?_
        refine x_i2l g dX12_mixChip_54 ?_
        obtain ⟨σ7, hgr6, hf⟩ := obind hf
        refine x_callV (r := (RX12, TX12, 53)) g xl [.long (Int32.toInt64 r5)] [] [] (c_X12_mix hA hgr6) mf_X12_mix im_X12_mix se_X12_mix ml_X12_390 rfl wm_0 (by decide) (by decide) rfl (Nat.le_of_ble_eq_true rfl) dX12_mixChip_55 rfl rfl ?_
        refine x_iinc g 2 (v2 + 1) (lv' := [(2, .int (v2 + 1)), (0, .ref (Ad 0)), (1, .int v1)]) dX12_mixChip_58 rfl (by rfl) (by decide) rfl ?_
        refine x_goto g 34 dX12_mixChip_61 (by decide) ?_
        exact x_sub [1, 2, 0] rfl (ih34 _ _ hf)
    · refine x_iinc g 1 (v1 + 1) (lv' := [(1, .int (v1 + 1)), (0, .ref (Ad 0)), (2, .int v2)]) dX12_mixChip_64 rfl (by rfl) (by decide) rfl ?_
      refine x_goto g 26 dX12_mixChip_67 (by decide) ?_
      exact x_sub [1, 0] rfl (ih26 _ _ hf)
set_option maxHeartbeats 4000000 in
set_option maxRecDepth 100000 in
theorem l_X12_mixChip_L26 {E : EV} {l : Launch} {D : va_G} {cy : Nat → ClassId} {Ad : Nat → Nat} {out : St × Option Value} {o : St} (hA : AdOK 37 Ad) (xl : XL E l D (AdA 37 Ad)) (g : XG E (wM cy Ad) cy cX12_mixChip RX12 3 6 none out) (ho : out = (o, none)) : ∀ (n : Nat) (σ : St) (v1 : Int32), f_X12_mixChip_L26 n σ v1 = some o → XJ E (wM cy Ad σ) 26 [(0, .ref (Ad 0)), (1, .int v1)] [] := by
  intro n
  induction n with
  | zero => intro _ _ hf; cases hf
  | succ n ih26 =>
    intro σ v1 hf
    replace hf : f_X12_mixChip_L26b (f_X12_mixChip_L26 n) σ v1 = some o := hf
    unfold f_X12_mixChip_L26b at hf
    refine x_iload_n g 1 dX12_mixChip_26 rfl rfl ?_
    refine x_bipush g 54 dX12_mixChip_27 (by decide) ?_
    refine x_icmp_ge g 70 dX12_mixChip_29 (by decide) hf (fun c29 hf => ?_) (fun c29 hf => ?_)
    · refine x_iconst g 0 dX12_mixChip_32 (by decide) ?_
      refine x_istore_n (lv' := [(2, .int 0), (0, .ref (Ad 0)), (1, .int v1)]) g dX12_mixChip_33 rfl (by decide) rfl ?_
      exact x_sub [1, 2, 0] rfl (l_X12_mixChip_L34 hA xl g _ ho ih26 FU _ _ hf)
    · cases hf
      exact x_vret g rfl ho dX12_mixChip_70
set_option maxHeartbeats 4000000 in
set_option maxRecDepth 100000 in
theorem l_X12_mixChip_L2 {E : EV} {l : Launch} {D : va_G} {cy : Nat → ClassId} {Ad : Nat → Nat} {out : St × Option Value} {o : St} (hA : AdOK 37 Ad) (xl : XL E l D (AdA 37 Ad)) (g : XG E (wM cy Ad) cy cX12_mixChip RX12 3 6 none out) (ho : out = (o, none)) : ∀ (n : Nat) (σ : St) (v1 : Int32), f_X12_mixChip_L2 n σ v1 = some o → XJ E (wM cy Ad σ) 2 [(0, .ref (Ad 0)), (1, .int v1)] [] := by
  intro n
  induction n with
  | zero => intro _ _ hf; cases hf
  | succ n ih2 =>
    intro σ v1 hf
    replace hf : f_X12_mixChip_L2b (f_X12_mixChip_L2 n) σ v1 = some o := hf
    unfold f_X12_mixChip_L2b at hf
    refine x_iload_n g 1 dX12_mixChip_2 rfl rfl ?_
    refine x_bipush g 8 dX12_mixChip_3 (by decide) ?_
    refine x_icmp_ge g 24 dX12_mixChip_5 (by decide) hf (fun c5 hf => ?_) (fun c5 hf => ?_)
    · refine x_aload_n g 0 dX12_mixChip_8 rfl rfl ?_
      refine x_aload_n g 0 dX12_mixChip_9 rfl rfl ?_
      refine x_iload_n g 1 dX12_mixChip_10 rfl rfl ?_
      obtain ⟨r1, hgr1, hf⟩ := obind hf
      refine x_callV (r := (RX12, TX12, 53)) g xl [.int v1] [.ref (Ad 0)] [.int r1, .ref (Ad 0)] (c_X12_aboutNow hA hgr1) mf_X12_aboutNow im_X12_aboutNow se_X12_aboutNow ml_X12_267 rfl wm_0 (by decide) (by decide) rfl (Nat.le_of_ble_eq_true rfl) dX12_mixChip_11 rfl rfl ?_
      refine x_i2l g dX12_mixChip_14 ?_
      obtain ⟨σ3, hgr2, hf⟩ := obind hf
      refine x_callV (r := (RX12, TX12, 53)) g xl [.long (Int32.toInt64 r1)] [] [] (c_X12_mix hA hgr2) mf_X12_mix im_X12_mix se_X12_mix ml_X12_390 rfl wm_0 (by decide) (by decide) rfl (Nat.le_of_ble_eq_true rfl) dX12_mixChip_15 rfl rfl ?_
      refine x_iinc g 1 (v1 + 1) (lv' := [(1, .int (v1 + 1)), (0, .ref (Ad 0))]) dX12_mixChip_18 rfl (by rfl) (by decide) rfl ?_
      refine x_goto g 2 dX12_mixChip_21 (by decide) ?_
      exact x_sub [1, 0] rfl (ih2 _ _ hf)
    · refine x_iconst g 0 dX12_mixChip_24 (by decide) ?_
      refine x_istore_n (lv' := [(1, .int 0), (0, .ref (Ad 0))]) g dX12_mixChip_25 rfl (by decide) rfl ?_
      exact x_sub [1, 0] rfl (l_X12_mixChip_L26 hA xl g ho FU _ _ hf)
set_option maxHeartbeats 4000000 in
set_option maxRecDepth 100000 in
theorem c_X12_mixChip {l : Launch} {D : va_G} {cy : Nat → ClassId} {Ad : Nat → Nat} (hA : AdOK 37 Ad) {σ : St} {o : St} (hf : f_X12_mixChip σ = some o) : CT l (wM cy Ad) D cy (AdA 37 Ad) yX12_mixChip cX12_mixChip 3 none 6 [.ref (Ad 0)] σ (o, none) := by
  refine CT.of mf_X12_mixChip (wM_D hA) (Nat.le_of_ble_eq_true rfl) ?_
  intro E xl g
  have ho : ((o, none) : St × Option Value) = (o, none) := rfl
  unfold f_X12_mixChip at hf
  show XJ E (wM cy Ad σ) 0 [(0, .ref (Ad 0))] []
  refine x_iconst g 0 dX12_mixChip_0 (by decide) ?_
  refine x_istore_n (lv' := [(1, .int 0), (0, .ref (Ad 0))]) g dX12_mixChip_1 rfl (by decide) rfl ?_
  exact x_sub [1, 0] rfl (l_X12_mixChip_L2 hA xl g ho FU _ _ hf)
/-! SlotChipModel.mixCircuit(I)V -/
def f_X12_mixCircuit_L69b (v1 : Int32) (K69 : St → Int32 → Option St) (σ : St) (v2 : Int32) : Option St :=
  chk (inb v1 8) (
    if v2 < (σ.1 13 0 (Int32.toNatClampNeg v1)) then
      ((f_X12_startAt σ v1 v2).bind fun r8 =>
      (f_X12_mix σ (Int32.toInt64 r8)).bind fun σ10 =>
      K69 σ10 (v2 + 1))
    else
      some σ)
def f_X12_mixCircuit_L69 (v1 : Int32) : Nat → St → Int32 → Option St
  | 0 => fun _ _ => none
  | n + 1 => f_X12_mixCircuit_L69b v1 (f_X12_mixCircuit_L69 v1 n)
def f_X12_mixCircuit_L33b (v1 : Int32) (K33 : St → Int32 → Option St) (σ : St) (v2 : Int32) : Option St :=
  chk (inb v1 8) (
    if v2 < ((σ.1 15 0 (Int32.toNatClampNeg v1)) + 2) then
      (chk (inb ((8 * v1) + v2) 64) (
        (f_X12_mix σ (Int32.toInt64 (σ.1 16 0 (Int32.toNatClampNeg ((8 * v1) + v2))))).bind fun σ7 =>
        K33 σ7 (v2 + 1)))
    else
      f_X12_mixCircuit_L69 v1 FU σ 0)
def f_X12_mixCircuit_L33 (v1 : Int32) : Nat → St → Int32 → Option St
  | 0 => fun _ _ => none
  | n + 1 => f_X12_mixCircuit_L33b v1 (f_X12_mixCircuit_L33 v1 n)
def f_X12_mixCircuit_L8b (v1 : Int32) (K8 : St → Int32 → Option St) (σ : St) (v2 : Int32) : Option St :=
  if v2 < 15 then
    ((f_X12_circuitNow σ v1 v2).bind fun r3 =>
    (f_X12_mix σ (Int32.toInt64 r3)).bind fun σ5 =>
    K8 σ5 (v2 + 1))
  else
    f_X12_mixCircuit_L33 v1 FU σ 0
def f_X12_mixCircuit_L8 (v1 : Int32) : Nat → St → Int32 → Option St
  | 0 => fun _ _ => none
  | n + 1 => f_X12_mixCircuit_L8b v1 (f_X12_mixCircuit_L8 v1 n)
def f_X12_mixCircuit (σ : St) (p1 : Int32) : Option St :=
  (f_X12_mix σ (Int32.toInt64 p1)).bind fun σ2 =>
  f_X12_mixCircuit_L8 p1 FU σ2 0
set_option maxHeartbeats 4000000 in
set_option maxRecDepth 100000 in
theorem l_X12_mixCircuit_L69 {E : EV} {l : Launch} {D : va_G} {cy : Nat → ClassId} {Ad : Nat → Nat} {out : St × Option Value} {o : St} (hA : AdOK 37 Ad) (xl : XL E l D (AdA 37 Ad)) (g : XG E (wM cy Ad) cy cX12_mixCircuit RX12 3 3 none out) (v1 : Int32) (ho : out = (o, none)) : ∀ (n : Nat) (σ : St) (v2 : Int32), f_X12_mixCircuit_L69 v1 n σ v2 = some o → XJ E (wM cy Ad σ) 69 [(0, .ref (Ad 0)), (1, .int v1), (2, .int v2)] [] := by
  intro n
  induction n with
  | zero => intro _ _ hf; cases hf
  | succ n ih69 =>
    intro σ v2 hf
    replace hf : f_X12_mixCircuit_L69b v1 (f_X12_mixCircuit_L69 v1 n) σ v2 = some o := hf
    unfold f_X12_mixCircuit_L69b at hf
    refine x_iload_n g 2 dX12_mixCircuit_69 rfl rfl ?_
    refine x_aload_n g 0 dX12_mixCircuit_70 rfl rfl ?_
    refine x_get g fl_X12_32 wm_0 rfl dX12_mixCircuit_71 ?_
    refine x_iload_n g 1 dX12_mixCircuit_74 rfl rfl ?_
    refine x_iald g wm_8 dX12_mixCircuit_75 hf (fun hf => ?_)
    refine x_icmp_ge g 96 dX12_mixCircuit_76 (by decide) hf (fun c76 hf => ?_) (fun c76 hf => ?_)
    · refine x_aload_n g 0 dX12_mixCircuit_79 rfl rfl ?_
      refine x_aload_n g 0 dX12_mixCircuit_80 rfl rfl ?_
      refine x_iload_n g 1 dX12_mixCircuit_81 rfl rfl ?_
      refine x_iload_n g 2 dX12_mixCircuit_82 rfl rfl ?_
      obtain ⟨r8, hgr8, hf⟩ := obind hf
      refine x_callV (r := (RX12, TX12, 53)) g xl [.int v1, .int v2] [.ref (Ad 0)] [.int r8, .ref (Ad 0)] (c_X12_startAt hA hgr8) mf_X12_startAt im_X12_startAt se_X12_startAt ml_X12_303 rfl wm_0 (by decide) (by decide) rfl (Nat.le_of_ble_eq_true rfl) dX12_mixCircuit_83 rfl rfl ?_
      refine x_i2l g dX12_mixCircuit_86 ?_
      obtain ⟨σ10, hgr9, hf⟩ := obind hf
      refine x_callV (r := (RX12, TX12, 53)) g xl [.long (Int32.toInt64 r8)] [] [] (c_X12_mix hA hgr9) mf_X12_mix im_X12_mix se_X12_mix ml_X12_390 rfl wm_0 (by decide) (by decide) rfl (Nat.le_of_ble_eq_true rfl) dX12_mixCircuit_87 rfl rfl ?_
      refine x_iinc g 2 (v2 + 1) (lv' := [(2, .int (v2 + 1)), (0, .ref (Ad 0)), (1, .int v1)]) dX12_mixCircuit_90 rfl (by rfl) (by decide) rfl ?_
      refine x_goto g 69 dX12_mixCircuit_93 (by decide) ?_
      exact x_sub [1, 2, 0] rfl (ih69 _ _ hf)
    · cases hf
      exact x_vret g rfl ho dX12_mixCircuit_96
set_option maxHeartbeats 4000000 in
set_option maxRecDepth 100000 in
theorem l_X12_mixCircuit_L33 {E : EV} {l : Launch} {D : va_G} {cy : Nat → ClassId} {Ad : Nat → Nat} {out : St × Option Value} {o : St} (hA : AdOK 37 Ad) (xl : XL E l D (AdA 37 Ad)) (g : XG E (wM cy Ad) cy cX12_mixCircuit RX12 3 3 none out) (v1 : Int32) (ho : out = (o, none)) : ∀ (n : Nat) (σ : St) (v2 : Int32), f_X12_mixCircuit_L33 v1 n σ v2 = some o → XJ E (wM cy Ad σ) 33 [(0, .ref (Ad 0)), (1, .int v1), (2, .int v2)] [] := by
  intro n
  induction n with
  | zero => intro _ _ hf; cases hf
  | succ n ih33 =>
    intro σ v2 hf
    replace hf : f_X12_mixCircuit_L33b v1 (f_X12_mixCircuit_L33 v1 n) σ v2 = some o := hf
    unfold f_X12_mixCircuit_L33b at hf
    refine x_iload_n g 2 dX12_mixCircuit_33 rfl rfl ?_
    refine x_aload_n g 0 dX12_mixCircuit_34 rfl rfl ?_
    refine x_get g fl_X12_38 wm_0 rfl dX12_mixCircuit_35 ?_
    refine x_iload_n g 1 dX12_mixCircuit_38 rfl rfl ?_
    refine x_iald g wm_10 dX12_mixCircuit_39 hf (fun hf => ?_)
    refine x_iconst g 2 dX12_mixCircuit_40 (by decide) ?_
    refine x_iadd g dX12_mixCircuit_41 ?_
    refine x_icmp_ge g 67 dX12_mixCircuit_42 (by decide) hf (fun c42 hf => ?_) (fun c42 hf => ?_)
    · refine x_aload_n g 0 dX12_mixCircuit_45 rfl rfl ?_
      refine x_aload_n g 0 dX12_mixCircuit_46 rfl rfl ?_
      refine x_get g fl_X12_41 wm_0 rfl dX12_mixCircuit_47 ?_
      refine x_bipush g 8 dX12_mixCircuit_50 (by decide) ?_
      refine x_iload_n g 1 dX12_mixCircuit_52 rfl rfl ?_
      refine x_imul g dX12_mixCircuit_53 ?_
      refine x_iload_n g 2 dX12_mixCircuit_54 rfl rfl ?_
      refine x_iadd g dX12_mixCircuit_55 ?_
      refine x_iald g wm_11 dX12_mixCircuit_56 hf (fun hf => ?_)
      refine x_i2l g dX12_mixCircuit_57 ?_
      obtain ⟨σ7, hgr6, hf⟩ := obind hf
      refine x_callV (r := (RX12, TX12, 53)) g xl [.long (Int32.toInt64 (σ.1 16 0 (Int32.toNatClampNeg ((8 * v1) + v2))))] [] [] (c_X12_mix hA hgr6) mf_X12_mix im_X12_mix se_X12_mix ml_X12_390 rfl wm_0 (by decide) (by decide) rfl (Nat.le_of_ble_eq_true rfl) dX12_mixCircuit_58 rfl rfl ?_
      refine x_iinc g 2 (v2 + 1) (lv' := [(2, .int (v2 + 1)), (0, .ref (Ad 0)), (1, .int v1)]) dX12_mixCircuit_61 rfl (by rfl) (by decide) rfl ?_
      refine x_goto g 33 dX12_mixCircuit_64 (by decide) ?_
      exact x_sub [1, 2, 0] rfl (ih33 _ _ hf)
    · refine x_iconst g 0 dX12_mixCircuit_67 (by decide) ?_
      refine x_istore_n (lv' := [(2, .int 0), (0, .ref (Ad 0)), (1, .int v1)]) g dX12_mixCircuit_68 rfl (by decide) rfl ?_
      exact x_sub [1, 2, 0] rfl (l_X12_mixCircuit_L69 hA xl g _ ho FU _ _ hf)
set_option maxHeartbeats 4000000 in
set_option maxRecDepth 100000 in
theorem l_X12_mixCircuit_L8 {E : EV} {l : Launch} {D : va_G} {cy : Nat → ClassId} {Ad : Nat → Nat} {out : St × Option Value} {o : St} (hA : AdOK 37 Ad) (xl : XL E l D (AdA 37 Ad)) (g : XG E (wM cy Ad) cy cX12_mixCircuit RX12 3 3 none out) (v1 : Int32) (ho : out = (o, none)) : ∀ (n : Nat) (σ : St) (v2 : Int32), f_X12_mixCircuit_L8 v1 n σ v2 = some o → XJ E (wM cy Ad σ) 8 [(0, .ref (Ad 0)), (1, .int v1), (2, .int v2)] [] := by
  intro n
  induction n with
  | zero => intro _ _ hf; cases hf
  | succ n ih8 =>
    intro σ v2 hf
    replace hf : f_X12_mixCircuit_L8b v1 (f_X12_mixCircuit_L8 v1 n) σ v2 = some o := hf
    unfold f_X12_mixCircuit_L8b at hf
    refine x_iload_n g 2 dX12_mixCircuit_8 rfl rfl ?_
    refine x_bipush g 15 dX12_mixCircuit_9 (by decide) ?_
    refine x_icmp_ge g 31 dX12_mixCircuit_11 (by decide) hf (fun c11 hf => ?_) (fun c11 hf => ?_)
    · refine x_aload_n g 0 dX12_mixCircuit_14 rfl rfl ?_
      refine x_aload_n g 0 dX12_mixCircuit_15 rfl rfl ?_
      refine x_iload_n g 1 dX12_mixCircuit_16 rfl rfl ?_
      refine x_iload_n g 2 dX12_mixCircuit_17 rfl rfl ?_
      obtain ⟨r3, hgr3, hf⟩ := obind hf
      refine x_callV (r := (RX12, TX12, 53)) g xl [.int v1, .int v2] [.ref (Ad 0)] [.int r3, .ref (Ad 0)] (c_X12_circuitNow hA hgr3) mf_X12_circuitNow im_X12_circuitNow se_X12_circuitNow ml_X12_300 rfl wm_0 (by decide) (by decide) rfl (Nat.le_of_ble_eq_true rfl) dX12_mixCircuit_18 rfl rfl ?_
      refine x_i2l g dX12_mixCircuit_21 ?_
      obtain ⟨σ5, hgr4, hf⟩ := obind hf
      refine x_callV (r := (RX12, TX12, 53)) g xl [.long (Int32.toInt64 r3)] [] [] (c_X12_mix hA hgr4) mf_X12_mix im_X12_mix se_X12_mix ml_X12_390 rfl wm_0 (by decide) (by decide) rfl (Nat.le_of_ble_eq_true rfl) dX12_mixCircuit_22 rfl rfl ?_
      refine x_iinc g 2 (v2 + 1) (lv' := [(2, .int (v2 + 1)), (0, .ref (Ad 0)), (1, .int v1)]) dX12_mixCircuit_25 rfl (by rfl) (by decide) rfl ?_
      refine x_goto g 8 dX12_mixCircuit_28 (by decide) ?_
      exact x_sub [1, 2, 0] rfl (ih8 _ _ hf)
    · refine x_iconst g 0 dX12_mixCircuit_31 (by decide) ?_
      refine x_istore_n (lv' := [(2, .int 0), (0, .ref (Ad 0)), (1, .int v1)]) g dX12_mixCircuit_32 rfl (by decide) rfl ?_
      exact x_sub [1, 2, 0] rfl (l_X12_mixCircuit_L33 hA xl g _ ho FU _ _ hf)
set_option maxHeartbeats 4000000 in
set_option maxRecDepth 100000 in
theorem c_X12_mixCircuit {l : Launch} {D : va_G} {cy : Nat → ClassId} {Ad : Nat → Nat} (hA : AdOK 37 Ad) {σ : St} {p1 : Int32} {o : St} (hf : f_X12_mixCircuit σ p1 = some o) : CT l (wM cy Ad) D cy (AdA 37 Ad) yX12_mixCircuit cX12_mixCircuit 3 none 3 [.ref (Ad 0), .int p1] σ (o, none) := by
  refine CT.of mf_X12_mixCircuit (wM_D hA) (Nat.le_of_ble_eq_true rfl) ?_
  intro E xl g
  have ho : ((o, none) : St × Option Value) = (o, none) := rfl
  unfold f_X12_mixCircuit at hf
  show XJ E (wM cy Ad σ) 0 [(0, .ref (Ad 0)), (1, .int p1)] []
  refine x_aload_n g 0 dX12_mixCircuit_0 rfl rfl ?_
  refine x_iload_n g 1 dX12_mixCircuit_1 rfl rfl ?_
  refine x_i2l g dX12_mixCircuit_2 ?_
  obtain ⟨σ2, hgr1, hf⟩ := obind hf
  refine x_callV (r := (RX12, TX12, 53)) g xl [.long (Int32.toInt64 p1)] [] [] (c_X12_mix hA hgr1) mf_X12_mix im_X12_mix se_X12_mix ml_X12_390 rfl wm_0 (by decide) (by decide) rfl (Nat.le_of_ble_eq_true rfl) dX12_mixCircuit_3 rfl rfl ?_
  refine x_iconst g 0 dX12_mixCircuit_6 (by decide) ?_
  refine x_istore_n (lv' := [(2, .int 0), (0, .ref (Ad 0)), (1, .int p1)]) g dX12_mixCircuit_7 rfl (by decide) rfl ?_
  exact x_sub [1, 2, 0] rfl (l_X12_mixCircuit_L8 hA xl g _ ho FU _ _ hf)
/-! SlotChipModel.digest()J -/
def f_X12_digest_L174b (K174 : St → Int32 → Option (St × Int64)) (σ : St) (v1 : Int32) : Option (St × Int64) :=
  if v1 < 7 then
    ((f_X12_howMany σ v1).bind fun r22 =>
    (f_X12_mix σ (Int32.toInt64 r22)).bind fun σ24 =>
    K174 σ24 (v1 + 1))
  else
    some (σ, (σ.2.2 52))
def f_X12_digest_L174 : Nat → St → Int32 → Option (St × Int64)
  | 0 => fun _ _ => none
  | n + 1 => f_X12_digest_L174b (f_X12_digest_L174 n)
def f_X12_digest_L147b (K147 : St → Int32 → Option (St × Int64)) (σ : St) (v1 : Int32) : Option (St × Int64) :=
  if v1 < (σ.1 0 0 7) then
    (chk (inb v1 30) (
      (f_X12_mix σ (Int32.toInt64 (σ.1 8 0 (Int32.toNatClampNeg v1)))).bind fun σ21 =>
      K147 σ21 (v1 + 1)))
  else
    f_X12_digest_L174 FU σ 0
def f_X12_digest_L147 : Nat → St → Int32 → Option (St × Int64)
  | 0 => fun _ _ => none
  | n + 1 => f_X12_digest_L147b (f_X12_digest_L147 n)
def f_X12_digest_L105b (K105 : St → Int32 → Option (St × Int64)) (σ : St) (v1 : Int32) : Option (St × Int64) :=
  if v1 < 3 then
    ((f_X12_arrivedNow σ 0 v1).bind fun r11 =>
    (f_X12_mix σ (Int32.toInt64 r11)).bind fun σ13 =>
    K105 σ13 (v1 + 1))
  else
    ((f_X12_fastestNow σ).bind fun r14 =>
    (f_X12_mix σ (Int32.toInt64 r14)).bind fun σ16 =>
    (f_X12_fasterNow σ16).bind fun r17 =>
    (f_X12_mix σ16 (Int32.toInt64 r17)).bind fun σ19 =>
    f_X12_digest_L147 FU σ19 0)
def f_X12_digest_L105 : Nat → St → Int32 → Option (St × Int64)
  | 0 => fun _ _ => none
  | n + 1 => f_X12_digest_L105b (f_X12_digest_L105 n)
def f_X12_digest_L81b (K81 : St → Int32 → Option (St × Int64)) (σ : St) (v1 : Int32) : Option (St × Int64) :=
  if v1 < 3 then
    ((f_X12_arrivedNow σ 1 v1).bind fun r8 =>
    (f_X12_mix σ (Int32.toInt64 r8)).bind fun σ10 =>
    K81 σ10 (v1 + 1))
  else
    f_X12_digest_L105 FU σ 0
def f_X12_digest_L81 : Nat → St → Int32 → Option (St × Int64)
  | 0 => fun _ _ => none
  | n + 1 => f_X12_digest_L81b (f_X12_digest_L81 n)
def f_X12_digest_L48b (K48 : St → Int32 → Option (St × Int64)) (σ : St) (v1 : Int32) : Option (St × Int64) :=
  if v1 < (5 * (σ.1 0 0 30)) then
    ((f_X12_strayNow σ (v1 / 5) (remI v1 5)).bind fun r5 =>
    (f_X12_mix σ (Int32.toInt64 r5)).bind fun σ7 =>
    K48 σ7 (v1 + 1))
  else
    f_X12_digest_L81 FU σ 0
def f_X12_digest_L48 : Nat → St → Int32 → Option (St × Int64)
  | 0 => fun _ _ => none
  | n + 1 => f_X12_digest_L48b (f_X12_digest_L48 n)
def f_X12_digest_L20b (K20 : St → Int32 → Option (St × Int64)) (σ : St) (v1 : Int32) : Option (St × Int64) :=
  if v1 < 8 then
    (chk (inb v1 8) (
      if (σ.1 9 0 (Int32.toNatClampNeg v1)) = 0 then
        K20 σ (v1 + 1)
      else
        ((f_X12_mixCircuit σ v1).bind fun σ4 =>
        K20 σ4 (v1 + 1))))
  else
    f_X12_digest_L48 FU σ 0
def f_X12_digest_L20 : Nat → St → Int32 → Option (St × Int64)
  | 0 => fun _ _ => none
  | n + 1 => f_X12_digest_L20b (f_X12_digest_L20 n)
def f_X12_digest (σ : St) : Option (St × Int64) :=
  bnd (sL σ 52 1511) fun σ1 =>
  (f_X12_isChip σ1).bind fun r2 =>
  if r2 = 0 then
    f_X12_digest_L20 FU σ1 0
  else
    ((f_X12_mixChip σ1).bind fun σ26 =>
    f_X12_digest_L20 FU σ26 0)
set_option maxHeartbeats 4000000 in
set_option maxRecDepth 100000 in
theorem l_X12_digest_L174 {E : EV} {l : Launch} {D : va_G} {cy : Nat → ClassId} {Ad : Nat → Nat} {out : St × Option Value} {o : (St × Int64)} (hA : AdOK 37 Ad) (xl : XL E l D (AdA 37 Ad)) (g : XG E (wM cy Ad) cy cX12_digest RX12 2 7 (some .long) out) (ho : out = (o.1, (some (.long o.2)))) : ∀ (n : Nat) (σ : St) (v1 : Int32), f_X12_digest_L174 n σ v1 = some o → XJ E (wM cy Ad σ) 174 [(0, .ref (Ad 0)), (1, .int v1)] [] := by
  intro n
  induction n with
  | zero => intro _ _ hf; cases hf
  | succ n ih174 =>
    intro σ v1 hf
    replace hf : f_X12_digest_L174b (f_X12_digest_L174 n) σ v1 = some o := hf
    unfold f_X12_digest_L174b at hf
    refine x_iload_n g 1 dX12_digest_174 rfl rfl ?_
    refine x_bipush g 7 dX12_digest_175 (by decide) ?_
    refine x_icmp_ge g 196 dX12_digest_177 (by decide) hf (fun c177 hf => ?_) (fun c177 hf => ?_)
    · refine x_aload_n g 0 dX12_digest_180 rfl rfl ?_
      refine x_aload_n g 0 dX12_digest_181 rfl rfl ?_
      refine x_iload_n g 1 dX12_digest_182 rfl rfl ?_
      obtain ⟨r22, hgr22, hf⟩ := obind hf
      refine x_callV (r := (RX12, TX12, 53)) g xl [.int v1] [.ref (Ad 0)] [.int r22, .ref (Ad 0)] (c_X12_howMany hA hgr22) mf_X12_howMany im_X12_howMany se_X12_howMany ml_X12_382 rfl wm_0 (by decide) (by decide) rfl (Nat.le_of_ble_eq_true rfl) dX12_digest_183 rfl rfl ?_
      refine x_i2l g dX12_digest_186 ?_
      obtain ⟨σ24, hgr23, hf⟩ := obind hf
      refine x_callV (r := (RX12, TX12, 53)) g xl [.long (Int32.toInt64 r22)] [] [] (c_X12_mix hA hgr23) mf_X12_mix im_X12_mix se_X12_mix ml_X12_390 rfl wm_0 (by decide) (by decide) rfl (Nat.le_of_ble_eq_true rfl) dX12_digest_187 rfl rfl ?_
      refine x_iinc g 1 (v1 + 1) (lv' := [(1, .int (v1 + 1)), (0, .ref (Ad 0))]) dX12_digest_190 rfl (by rfl) (by decide) rfl ?_
      refine x_goto g 174 dX12_digest_193 (by decide) ?_
      exact x_sub [1, 0] rfl (ih174 _ _ hf)
    · refine x_aload_n g 0 dX12_digest_196 rfl rfl ?_
      refine x_get g fl_X12_387 wm_0 rfl dX12_digest_197 ?_
      cases hf
      exact x_lret g rfl ho dX12_digest_200
set_option maxHeartbeats 4000000 in
set_option maxRecDepth 100000 in
theorem l_X12_digest_L147 {E : EV} {l : Launch} {D : va_G} {cy : Nat → ClassId} {Ad : Nat → Nat} {out : St × Option Value} {o : (St × Int64)} (hA : AdOK 37 Ad) (xl : XL E l D (AdA 37 Ad)) (g : XG E (wM cy Ad) cy cX12_digest RX12 2 7 (some .long) out) (ho : out = (o.1, (some (.long o.2)))) : ∀ (n : Nat) (σ : St) (v1 : Int32), f_X12_digest_L147 n σ v1 = some o → XJ E (wM cy Ad σ) 147 [(0, .ref (Ad 0)), (1, .int v1)] [] := by
  intro n
  induction n with
  | zero => intro _ _ hf; cases hf
  | succ n ih147 =>
    intro σ v1 hf
    replace hf : f_X12_digest_L147b (f_X12_digest_L147 n) σ v1 = some o := hf
    unfold f_X12_digest_L147b at hf
    refine x_iload_n g 1 dX12_digest_147 rfl rfl ?_
    refine x_aload_n g 0 dX12_digest_148 rfl rfl ?_
    refine x_get g fl_X12_138 wm_0 rfl dX12_digest_149 ?_
    refine x_icmp_ge g 172 dX12_digest_152 (by decide) hf (fun c152 hf => ?_) (fun c152 hf => ?_)
    · refine x_aload_n g 0 dX12_digest_155 rfl rfl ?_
      refine x_aload_n g 0 dX12_digest_156 rfl rfl ?_
      refine x_get g fl_X12_17 wm_0 rfl dX12_digest_157 ?_
      refine x_iload_n g 1 dX12_digest_160 rfl rfl ?_
      refine x_iald g wm_3 dX12_digest_161 hf (fun hf => ?_)
      refine x_i2l g dX12_digest_162 ?_
      obtain ⟨σ21, hgr20, hf⟩ := obind hf
      refine x_callV (r := (RX12, TX12, 53)) g xl [.long (Int32.toInt64 (σ.1 8 0 (Int32.toNatClampNeg v1)))] [] [] (c_X12_mix hA hgr20) mf_X12_mix im_X12_mix se_X12_mix ml_X12_390 rfl wm_0 (by decide) (by decide) rfl (Nat.le_of_ble_eq_true rfl) dX12_digest_163 rfl rfl ?_
      refine x_iinc g 1 (v1 + 1) (lv' := [(1, .int (v1 + 1)), (0, .ref (Ad 0))]) dX12_digest_166 rfl (by rfl) (by decide) rfl ?_
      refine x_goto g 147 dX12_digest_169 (by decide) ?_
      exact x_sub [1, 0] rfl (ih147 _ _ hf)
    · refine x_iconst g 0 dX12_digest_172 (by decide) ?_
      refine x_istore_n (lv' := [(1, .int 0), (0, .ref (Ad 0))]) g dX12_digest_173 rfl (by decide) rfl ?_
      exact x_sub [1, 0] rfl (l_X12_digest_L174 hA xl g ho FU _ _ hf)
set_option maxHeartbeats 4000000 in
set_option maxRecDepth 100000 in
theorem l_X12_digest_L105 {E : EV} {l : Launch} {D : va_G} {cy : Nat → ClassId} {Ad : Nat → Nat} {out : St × Option Value} {o : (St × Int64)} (hA : AdOK 37 Ad) (xl : XL E l D (AdA 37 Ad)) (g : XG E (wM cy Ad) cy cX12_digest RX12 2 7 (some .long) out) (ho : out = (o.1, (some (.long o.2)))) : ∀ (n : Nat) (σ : St) (v1 : Int32), f_X12_digest_L105 n σ v1 = some o → XJ E (wM cy Ad σ) 105 [(0, .ref (Ad 0)), (1, .int v1)] [] := by
  intro n
  induction n with
  | zero => intro _ _ hf; cases hf
  | succ n ih105 =>
    intro σ v1 hf
    replace hf : f_X12_digest_L105b (f_X12_digest_L105 n) σ v1 = some o := hf
    unfold f_X12_digest_L105b at hf
    refine x_iload_n g 1 dX12_digest_105 rfl rfl ?_
    refine x_iconst g 3 dX12_digest_106 (by decide) ?_
    refine x_icmp_ge g 127 dX12_digest_107 (by decide) hf (fun c107 hf => ?_) (fun c107 hf => ?_)
    · refine x_aload_n g 0 dX12_digest_110 rfl rfl ?_
      refine x_aload_n g 0 dX12_digest_111 rfl rfl ?_
      refine x_iconst g 0 dX12_digest_112 (by decide) ?_
      refine x_iload_n g 1 dX12_digest_113 rfl rfl ?_
      obtain ⟨r11, hgr11, hf⟩ := obind hf
      refine x_callV (r := (RX12, TX12, 53)) g xl [.int 0, .int v1] [.ref (Ad 0)] [.int r11, .ref (Ad 0)] (c_X12_arrivedNow hA hgr11) mf_X12_arrivedNow im_X12_arrivedNow se_X12_arrivedNow ml_X12_322 rfl wm_0 (by decide) (by decide) rfl (Nat.le_of_ble_eq_true rfl) dX12_digest_114 rfl rfl ?_
      refine x_i2l g dX12_digest_117 ?_
      obtain ⟨σ13, hgr12, hf⟩ := obind hf
      refine x_callV (r := (RX12, TX12, 53)) g xl [.long (Int32.toInt64 r11)] [] [] (c_X12_mix hA hgr12) mf_X12_mix im_X12_mix se_X12_mix ml_X12_390 rfl wm_0 (by decide) (by decide) rfl (Nat.le_of_ble_eq_true rfl) dX12_digest_118 rfl rfl ?_
      refine x_iinc g 1 (v1 + 1) (lv' := [(1, .int (v1 + 1)), (0, .ref (Ad 0))]) dX12_digest_121 rfl (by rfl) (by decide) rfl ?_
      refine x_goto g 105 dX12_digest_124 (by decide) ?_
      exact x_sub [1, 0] rfl (ih105 _ _ hf)
    · refine x_aload_n g 0 dX12_digest_127 rfl rfl ?_
      refine x_aload_n g 0 dX12_digest_128 rfl rfl ?_
      obtain ⟨r14, hgr14, hf⟩ := obind hf
      refine x_callV (r := (RX12, TX12, 53)) g xl [] [.ref (Ad 0)] [.int r14, .ref (Ad 0)] (c_X12_fastestNow hA hgr14) mf_X12_fastestNow im_X12_fastestNow se_X12_fastestNow ml_X12_309 rfl wm_0 (by decide) (by decide) rfl (Nat.le_of_ble_eq_true rfl) dX12_digest_129 rfl rfl ?_
      refine x_i2l g dX12_digest_132 ?_
      obtain ⟨σ16, hgr15, hf⟩ := obind hf
      refine x_callV (r := (RX12, TX12, 53)) g xl [.long (Int32.toInt64 r14)] [] [] (c_X12_mix hA hgr15) mf_X12_mix im_X12_mix se_X12_mix ml_X12_390 rfl wm_0 (by decide) (by decide) rfl (Nat.le_of_ble_eq_true rfl) dX12_digest_133 rfl rfl ?_
      refine x_aload_n g 0 dX12_digest_136 rfl rfl ?_
      refine x_aload_n g 0 dX12_digest_137 rfl rfl ?_
      obtain ⟨r17, hgr17, hf⟩ := obind hf
      refine x_callV (r := (RX12, TX12, 53)) g xl [] [.ref (Ad 0)] [.int r17, .ref (Ad 0)] (c_X12_fasterNow hA hgr17) mf_X12_fasterNow im_X12_fasterNow se_X12_fasterNow ml_X12_325 rfl wm_0 (by decide) (by decide) rfl (Nat.le_of_ble_eq_true rfl) dX12_digest_138 rfl rfl ?_
      refine x_i2l g dX12_digest_141 ?_
      obtain ⟨σ19, hgr18, hf⟩ := obind hf
      refine x_callV (r := (RX12, TX12, 53)) g xl [.long (Int32.toInt64 r17)] [] [] (c_X12_mix hA hgr18) mf_X12_mix im_X12_mix se_X12_mix ml_X12_390 rfl wm_0 (by decide) (by decide) rfl (Nat.le_of_ble_eq_true rfl) dX12_digest_142 rfl rfl ?_
      refine x_iconst g 0 dX12_digest_145 (by decide) ?_
      refine x_istore_n (lv' := [(1, .int 0), (0, .ref (Ad 0))]) g dX12_digest_146 rfl (by decide) rfl ?_
      exact x_sub [1, 0] rfl (l_X12_digest_L147 hA xl g ho FU _ _ hf)
set_option maxHeartbeats 4000000 in
set_option maxRecDepth 100000 in
theorem l_X12_digest_L81 {E : EV} {l : Launch} {D : va_G} {cy : Nat → ClassId} {Ad : Nat → Nat} {out : St × Option Value} {o : (St × Int64)} (hA : AdOK 37 Ad) (xl : XL E l D (AdA 37 Ad)) (g : XG E (wM cy Ad) cy cX12_digest RX12 2 7 (some .long) out) (ho : out = (o.1, (some (.long o.2)))) : ∀ (n : Nat) (σ : St) (v1 : Int32), f_X12_digest_L81 n σ v1 = some o → XJ E (wM cy Ad σ) 81 [(0, .ref (Ad 0)), (1, .int v1)] [] := by
  intro n
  induction n with
  | zero => intro _ _ hf; cases hf
  | succ n ih81 =>
    intro σ v1 hf
    replace hf : f_X12_digest_L81b (f_X12_digest_L81 n) σ v1 = some o := hf
    unfold f_X12_digest_L81b at hf
    refine x_iload_n g 1 dX12_digest_81 rfl rfl ?_
    refine x_iconst g 3 dX12_digest_82 (by decide) ?_
    refine x_icmp_ge g 103 dX12_digest_83 (by decide) hf (fun c83 hf => ?_) (fun c83 hf => ?_)
    · refine x_aload_n g 0 dX12_digest_86 rfl rfl ?_
      refine x_aload_n g 0 dX12_digest_87 rfl rfl ?_
      refine x_iconst g 1 dX12_digest_88 (by decide) ?_
      refine x_iload_n g 1 dX12_digest_89 rfl rfl ?_
      obtain ⟨r8, hgr8, hf⟩ := obind hf
      refine x_callV (r := (RX12, TX12, 53)) g xl [.int 1, .int v1] [.ref (Ad 0)] [.int r8, .ref (Ad 0)] (c_X12_arrivedNow hA hgr8) mf_X12_arrivedNow im_X12_arrivedNow se_X12_arrivedNow ml_X12_322 rfl wm_0 (by decide) (by decide) rfl (Nat.le_of_ble_eq_true rfl) dX12_digest_90 rfl rfl ?_
      refine x_i2l g dX12_digest_93 ?_
      obtain ⟨σ10, hgr9, hf⟩ := obind hf
      refine x_callV (r := (RX12, TX12, 53)) g xl [.long (Int32.toInt64 r8)] [] [] (c_X12_mix hA hgr9) mf_X12_mix im_X12_mix se_X12_mix ml_X12_390 rfl wm_0 (by decide) (by decide) rfl (Nat.le_of_ble_eq_true rfl) dX12_digest_94 rfl rfl ?_
      refine x_iinc g 1 (v1 + 1) (lv' := [(1, .int (v1 + 1)), (0, .ref (Ad 0))]) dX12_digest_97 rfl (by rfl) (by decide) rfl ?_
      refine x_goto g 81 dX12_digest_100 (by decide) ?_
      exact x_sub [1, 0] rfl (ih81 _ _ hf)
    · refine x_iconst g 0 dX12_digest_103 (by decide) ?_
      refine x_istore_n (lv' := [(1, .int 0), (0, .ref (Ad 0))]) g dX12_digest_104 rfl (by decide) rfl ?_
      exact x_sub [1, 0] rfl (l_X12_digest_L105 hA xl g ho FU _ _ hf)
set_option maxHeartbeats 4000000 in
set_option maxRecDepth 100000 in
theorem l_X12_digest_L48 {E : EV} {l : Launch} {D : va_G} {cy : Nat → ClassId} {Ad : Nat → Nat} {out : St × Option Value} {o : (St × Int64)} (hA : AdOK 37 Ad) (xl : XL E l D (AdA 37 Ad)) (g : XG E (wM cy Ad) cy cX12_digest RX12 2 7 (some .long) out) (ho : out = (o.1, (some (.long o.2)))) : ∀ (n : Nat) (σ : St) (v1 : Int32), f_X12_digest_L48 n σ v1 = some o → XJ E (wM cy Ad σ) 48 [(0, .ref (Ad 0)), (1, .int v1)] [] := by
  intro n
  induction n with
  | zero => intro _ _ hf; cases hf
  | succ n ih48 =>
    intro σ v1 hf
    replace hf : f_X12_digest_L48b (f_X12_digest_L48 n) σ v1 = some o := hf
    unfold f_X12_digest_L48b at hf
    refine x_iload_n g 1 dX12_digest_48 rfl rfl ?_
    refine x_iconst g 5 dX12_digest_49 (by decide) ?_
    refine x_aload_n g 0 dX12_digest_50 rfl rfl ?_
    refine x_get g fl_X12_194 wm_0 rfl dX12_digest_51 ?_
    refine x_imul g dX12_digest_54 ?_
    refine x_icmp_ge g 79 dX12_digest_55 (by decide) hf (fun c55 hf => ?_) (fun c55 hf => ?_)
    · refine x_aload_n g 0 dX12_digest_58 rfl rfl ?_
      refine x_aload_n g 0 dX12_digest_59 rfl rfl ?_
      refine x_iload_n g 1 dX12_digest_60 rfl rfl ?_
      refine x_iconst g 5 dX12_digest_61 (by decide) ?_
      refine x_idiv g dX12_digest_62 (by decide) ?_
      refine x_iload_n g 1 dX12_digest_63 rfl rfl ?_
      refine x_iconst g 5 dX12_digest_64 (by decide) ?_
      refine x_irem g dX12_digest_65 (by decide) ?_
      obtain ⟨r5, hgr5, hf⟩ := obind hf
      refine x_callV (r := (RX12, TX12, 53)) g xl [.int (v1 / 5), .int (remI v1 5)] [.ref (Ad 0)] [.int r5, .ref (Ad 0)] (c_X12_strayNow hA hgr5) mf_X12_strayNow im_X12_strayNow se_X12_strayNow ml_X12_319 rfl wm_0 (by decide) (by decide) rfl (Nat.le_of_ble_eq_true rfl) dX12_digest_66 rfl rfl ?_
      refine x_i2l g dX12_digest_69 ?_
      obtain ⟨σ7, hgr6, hf⟩ := obind hf
      refine x_callV (r := (RX12, TX12, 53)) g xl [.long (Int32.toInt64 r5)] [] [] (c_X12_mix hA hgr6) mf_X12_mix im_X12_mix se_X12_mix ml_X12_390 rfl wm_0 (by decide) (by decide) rfl (Nat.le_of_ble_eq_true rfl) dX12_digest_70 rfl rfl ?_
      refine x_iinc g 1 (v1 + 1) (lv' := [(1, .int (v1 + 1)), (0, .ref (Ad 0))]) dX12_digest_73 rfl (by rfl) (by decide) rfl ?_
      refine x_goto g 48 dX12_digest_76 (by decide) ?_
      exact x_sub [1, 0] rfl (ih48 _ _ hf)
    · refine x_iconst g 0 dX12_digest_79 (by decide) ?_
      refine x_istore_n (lv' := [(1, .int 0), (0, .ref (Ad 0))]) g dX12_digest_80 rfl (by decide) rfl ?_
      exact x_sub [1, 0] rfl (l_X12_digest_L81 hA xl g ho FU _ _ hf)
set_option maxHeartbeats 4000000 in
set_option maxRecDepth 100000 in
theorem l_X12_digest_L20 {E : EV} {l : Launch} {D : va_G} {cy : Nat → ClassId} {Ad : Nat → Nat} {out : St × Option Value} {o : (St × Int64)} (hA : AdOK 37 Ad) (xl : XL E l D (AdA 37 Ad)) (g : XG E (wM cy Ad) cy cX12_digest RX12 2 7 (some .long) out) (ho : out = (o.1, (some (.long o.2)))) : ∀ (n : Nat) (σ : St) (v1 : Int32), f_X12_digest_L20 n σ v1 = some o → XJ E (wM cy Ad σ) 20 [(0, .ref (Ad 0)), (1, .int v1)] [] := by
  intro n
  induction n with
  | zero => intro _ _ hf; cases hf
  | succ n ih20 =>
    intro σ v1 hf
    replace hf : f_X12_digest_L20b (f_X12_digest_L20 n) σ v1 = some o := hf
    unfold f_X12_digest_L20b at hf
    refine x_iload_n g 1 dX12_digest_20 rfl rfl ?_
    refine x_bipush g 8 dX12_digest_21 (by decide) ?_
    refine x_icmp_ge g 46 dX12_digest_23 (by decide) hf (fun c23 hf => ?_) (fun c23 hf => ?_)
    · refine x_aload_n g 0 dX12_digest_26 rfl rfl ?_
      refine x_get g fl_X12_20 wm_0 rfl dX12_digest_27 ?_
      refine x_iload_n g 1 dX12_digest_30 rfl rfl ?_
      refine x_zald g wm_4 dX12_digest_31 hf (fun hf => ?_)
      refine x_if_eq g 40 dX12_digest_32 (by decide) hf (fun c32 hf => ?_) (fun c32 hf => ?_)
      · refine x_iinc g 1 (v1 + 1) (lv' := [(1, .int (v1 + 1)), (0, .ref (Ad 0))]) dX12_digest_40 rfl (by rfl) (by decide) rfl ?_
        refine x_goto g 20 dX12_digest_43 (by decide) ?_
        exact x_sub [1, 0] rfl (ih20 _ _ hf)
      · refine x_aload_n g 0 dX12_digest_35 rfl rfl ?_
        refine x_iload_n g 1 dX12_digest_36 rfl rfl ?_
        obtain ⟨σ4, hgr3, hf⟩ := obind hf
        refine x_callV (r := (RX12, TX12, 53)) g xl [.int v1] [] [] (c_X12_mixCircuit hA hgr3) mf_X12_mixCircuit im_X12_mixCircuit se_X12_mixCircuit ml_X12_399 rfl wm_0 (by decide) (by decide) rfl (Nat.le_of_ble_eq_true rfl) dX12_digest_37 rfl rfl ?_
        refine x_iinc g 1 (v1 + 1) (lv' := [(1, .int (v1 + 1)), (0, .ref (Ad 0))]) dX12_digest_40 rfl (by rfl) (by decide) rfl ?_
        refine x_goto g 20 dX12_digest_43 (by decide) ?_
        exact x_sub [1, 0] rfl (ih20 _ _ hf)
    · refine x_iconst g 0 dX12_digest_46 (by decide) ?_
      refine x_istore_n (lv' := [(1, .int 0), (0, .ref (Ad 0))]) g dX12_digest_47 rfl (by decide) rfl ?_
      exact x_sub [1, 0] rfl (l_X12_digest_L48 hA xl g ho FU _ _ hf)
set_option maxHeartbeats 4000000 in
set_option maxRecDepth 100000 in
theorem c_X12_digest {l : Launch} {D : va_G} {cy : Nat → ClassId} {Ad : Nat → Nat} (hA : AdOK 37 Ad) {σ : St} {o : (St × Int64)} (hf : f_X12_digest σ = some o) : CT l (wM cy Ad) D cy (AdA 37 Ad) yX12_digest cX12_digest 2 (some .long) 7 [.ref (Ad 0)] σ (o.1, (some (.long o.2))) := by
  refine CT.of mf_X12_digest (wM_D hA) (Nat.le_of_ble_eq_true rfl) ?_
  intro E xl g
  have ho : ((o.1, (some (.long o.2))) : St × Option Value) = (o.1, (some (.long o.2))) := rfl
  unfold f_X12_digest at hf
  show XJ E (wM cy Ad σ) 0 [(0, .ref (Ad 0))] []
  refine x_aload_n g 0 dX12_digest_0 rfl rfl ?_
  refine x_ldc2 g kl_X12_394 dX12_digest_1 ?_
  refine x_putB g tyX12 fl_X12_387 tyX12_ok nmX12 wm_0 rfl rfl rfl (Nat.le_of_ble_eq_true rfl) (sm_0_52 _) dX12_digest_4 hf (fun σ1 hf => ?_)
  refine x_aload_n g 0 dX12_digest_7 rfl rfl ?_
  obtain ⟨r2, hgr2, hf⟩ := obind hf
  refine x_callV (r := (RX12, TX12, 53)) g xl [] [] [.int r2] (c_X12_isChip hA hgr2) mf_X12_isChip im_X12_isChip se_X12_isChip ml_X12_264 rfl wm_0 (by decide) (by decide) rfl (Nat.le_of_ble_eq_true rfl) dX12_digest_8 rfl rfl ?_
  refine x_if_eq g 18 dX12_digest_11 (by decide) hf (fun c11 hf => ?_) (fun c11 hf => ?_)
  · refine x_iconst g 0 dX12_digest_18 (by decide) ?_
    refine x_istore_n (lv' := [(1, .int 0), (0, .ref (Ad 0))]) g dX12_digest_19 rfl (by decide) rfl ?_
    exact x_sub [1, 0] rfl (l_X12_digest_L20 hA xl g ho FU _ _ hf)
  · refine x_aload_n g 0 dX12_digest_14 rfl rfl ?_
    obtain ⟨σ26, hgr25, hf⟩ := obind hf
    refine x_callV (r := (RX12, TX12, 53)) g xl [] [] [] (c_X12_mixChip hA hgr25) mf_X12_mixChip im_X12_mixChip se_X12_mixChip ml_X12_396 rfl wm_0 (by decide) (by decide) rfl (Nat.le_of_ble_eq_true rfl) dX12_digest_15 rfl rfl ?_
    refine x_iconst g 0 dX12_digest_18 (by decide) ?_
    refine x_istore_n (lv' := [(1, .int 0), (0, .ref (Ad 0))]) g dX12_digest_19 rfl (by decide) rfl ?_
    exact x_sub [1, 0] rfl (l_X12_digest_L20 hA xl g ho FU _ _ hf)
