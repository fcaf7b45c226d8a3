/-! PRINTED: classes, methods, links, as the rules ask for them -/
set_option maxRecDepth 100000 in
theorem mc0 : mCls 0 RX0 TX0 5 tyX0 := ⟨rfl, by decide +kernel, tyX0_ok, nmX0, by decide⟩
theorem mdf0 : ∀ j, j < 5 → ∀ t, (mFT 0)[j]? = some t → defaultValue (tyX0 j) = mdef t := by
  intro j hj t ht
  rcases j with _ | _ | _ | _ | _ | j <;> first | (cases ht; rfl) | (exfalso; omega)
set_option maxRecDepth 100000 in
theorem mc1 : mCls 1 RX1 TX1 4 tyX1 := ⟨rfl, by decide +kernel, tyX1_ok, nmX1, by decide⟩
theorem mdf1 : ∀ j, j < 4 → ∀ t, (mFT 1)[j]? = some t → defaultValue (tyX1 j) = mdef t := by
  intro j hj t ht
  rcases j with _ | _ | _ | _ | j <;> first | (cases ht; rfl) | (exfalso; omega)
set_option maxRecDepth 100000 in
theorem mc2 : mCls 2 RX2 TX2 7 tyX2 := ⟨rfl, by decide +kernel, tyX2_ok, nmX2, by decide⟩
theorem mdf2 : ∀ j, j < 7 → ∀ t, (mFT 2)[j]? = some t → defaultValue (tyX2 j) = mdef t := by
  intro j hj t ht
  rcases j with _ | _ | _ | _ | _ | _ | _ | j <;> first | (cases ht; rfl) | (exfalso; omega)
set_option maxRecDepth 100000 in
theorem mc3 : mCls 3 RX3 TX3 5 tyX3 := ⟨rfl, by decide +kernel, tyX3_ok, nmX3, by decide⟩
theorem mdf3 : ∀ j, j < 5 → ∀ t, (mFT 3)[j]? = some t → defaultValue (tyX3 j) = mdef t := by
  intro j hj t ht
  rcases j with _ | _ | _ | _ | _ | j <;> first | (cases ht; rfl) | (exfalso; omega)
set_option maxRecDepth 100000 in
theorem mc4 : mCls 4 RX4 TX4 4 tyX4 := ⟨rfl, by decide +kernel, tyX4_ok, nmX4, by decide⟩
theorem mdf4 : ∀ j, j < 4 → ∀ t, (mFT 4)[j]? = some t → defaultValue (tyX4 j) = mdef t := by
  intro j hj t ht
  rcases j with _ | _ | _ | _ | j <;> first | (cases ht; rfl) | (exfalso; omega)
set_option maxRecDepth 100000 in
theorem mc5 : mCls 5 RX5 TX5 6 tyX5 := ⟨rfl, by decide +kernel, tyX5_ok, nmX5, by decide⟩
theorem mdf5 : ∀ j, j < 6 → ∀ t, (mFT 5)[j]? = some t → defaultValue (tyX5 j) = mdef t := by
  intro j hj t ht
  rcases j with _ | _ | _ | _ | _ | _ | j <;> first | (cases ht; rfl) | (exfalso; omega)
set_option maxRecDepth 100000 in
theorem mc6 : mCls 6 RX6 TX6 3 tyX6 := ⟨rfl, by decide +kernel, tyX6_ok, nmX6, by decide⟩
theorem mdf6 : ∀ j, j < 3 → ∀ t, (mFT 6)[j]? = some t → defaultValue (tyX6 j) = mdef t := by
  intro j hj t ht
  rcases j with _ | _ | _ | j <;> first | (cases ht; rfl) | (exfalso; omega)
set_option maxRecDepth 100000 in
theorem mc7 : mCls 7 RX7 TX7 2 tyX7 := ⟨rfl, by decide +kernel, tyX7_ok, nmX7, by decide⟩
theorem mdf7 : ∀ j, j < 2 → ∀ t, (mFT 7)[j]? = some t → defaultValue (tyX7 j) = mdef t := by
  intro j hj t ht
  rcases j with _ | _ | j <;> first | (cases ht; rfl) | (exfalso; omega)
set_option maxRecDepth 100000 in
theorem mc8 : mCls 8 RX8 TX8 3 tyX8 := ⟨rfl, by decide +kernel, tyX8_ok, nmX8, by decide⟩
theorem mdf8 : ∀ j, j < 3 → ∀ t, (mFT 8)[j]? = some t → defaultValue (tyX8 j) = mdef t := by
  intro j hj t ht
  rcases j with _ | _ | _ | j <;> first | (cases ht; rfl) | (exfalso; omega)
set_option maxRecDepth 100000 in
theorem mc9 : mCls 9 RX9 TX9 9 tyX9 := ⟨rfl, by decide +kernel, tyX9_ok, nmX9, by decide⟩
theorem mdf9 : ∀ j, j < 9 → ∀ t, (mFT 9)[j]? = some t → defaultValue (tyX9 j) = mdef t := by
  intro j hj t ht
  rcases j with _ | _ | _ | _ | _ | _ | _ | _ | _ | j <;> first | (cases ht; rfl) | (exfalso; omega)
set_option maxRecDepth 100000 in
theorem mc10 : mCls 10 RX10 TX10 9 tyX10 := ⟨rfl, by decide +kernel, tyX10_ok, nmX10, by decide⟩
theorem mdf10 : ∀ j, j < 9 → ∀ t, (mFT 10)[j]? = some t → defaultValue (tyX10 j) = mdef t := by
  intro j hj t ht
  rcases j with _ | _ | _ | _ | _ | _ | _ | _ | _ | j <;> first | (cases ht; rfl) | (exfalso; omega)
set_option maxRecDepth 100000 in
theorem mc11 : mCls 11 RX11 TX11 49 tyX11 := ⟨rfl, by decide +kernel, tyX11_ok, nmX11, by decide⟩
theorem mdf11 : ∀ j, j < 49 → ∀ t, (mFT 11)[j]? = some t → defaultValue (tyX11 j) = mdef t := by
  intro j hj t ht
  rcases j with _ | _ | _ | _ | _ | _ | _ | _ | _ | _ | _ | _ | _ | _ | _ | _ | _ | _ | _ | _ | _ | _ | _ | _ | _ | _ | _ | _ | _ | _ | _ | _ | _ | _ | _ | _ | _ | _ | _ | _ | _ | _ | _ | _ | _ | _ | _ | _ | _ | j <;> first | (cases ht; rfl) | (exfalso; omega)
def MX0_init : mM := (cX0_init, yX0_init, 1, none)
set_option maxRecDepth 100000 in
theorem mi_X0_init : mMI MX0_init 0 := ⟨⟨rfl, mT_in 395 (by decide +kernel) rfl, rfl⟩, mT_in 135 (by decide +kernel) rfl, mT_in 396 rfl rfl, by decide, ⟨by decide, by decide, by decide +kernel⟩⟩
def MX0_above : mM := (cX0_above, yX0_above, 1, some FieldType.int)
set_option maxRecDepth 100000 in
theorem ms_X0_above : mMS MX0_above 1 := ⟨mT_in 1011 (by decide +kernel) rfl, mT_in 135 (by decide +kernel) rfl, mT_in 1012 rfl rfl, by decide, ⟨by decide, by decide, by decide +kernel⟩⟩
def MX0_isUnder : mM := (cX0_isUnder, yX0_isUnder, 4, some FieldType.boolean)
set_option maxRecDepth 100000 in
theorem ms_X0_isUnder : mMS MX0_isUnder 2 := ⟨mT_in 1036 (by decide +kernel) rfl, mT_in 135 (by decide +kernel) rfl, mT_in 1037 rfl rfl, by decide, ⟨by decide, by decide, by decide +kernel⟩⟩
def MX0_forget : mM := (cX0_forget, yX0_forget, 1, none)
set_option maxRecDepth 100000 in
theorem mv_X0_forget : mMV MX0_forget 0 := ⟨⟨mT_in 995 (by decide +kernel) rfl, mT_in 77 (by decide +kernel) rfl⟩, mT_in 135 (by decide +kernel) rfl, mT_in 996 rfl rfl, by decide, ⟨by decide, by decide, by decide +kernel⟩⟩
def MX0_bodyAt : mM := (cX0_bodyAt, yX0_bodyAt, 2, some FieldType.int)
set_option maxRecDepth 100000 in
theorem mv_X0_bodyAt : mMV MX0_bodyAt 1 := ⟨⟨mT_in 1029 (by decide +kernel) rfl, mT_in 82 (by decide +kernel) rfl⟩, mT_in 135 (by decide +kernel) rfl, mT_in 1030 rfl rfl, by decide, ⟨by decide, by decide, by decide +kernel⟩⟩
def MX0_start : mM := (cX0_start, yX0_start, 5, some FieldType.int)
set_option maxRecDepth 100000 in
theorem mv_X0_start : mMV MX0_start 4 := ⟨⟨mT_in 999 (by decide +kernel) rfl, mT_in 78 (by decide +kernel) rfl⟩, mT_in 135 (by decide +kernel) rfl, mT_in 1000 rfl rfl, by decide, ⟨by decide, by decide, by decide +kernel⟩⟩
def MX0_note : mM := (cX0_note, yX0_note, 2, none)
set_option maxRecDepth 100000 in
theorem mv_X0_note : mMV MX0_note 1 := ⟨⟨mT_in 1017 (by decide +kernel) rfl, mT_in 80 (by decide +kernel) rfl⟩, mT_in 135 (by decide +kernel) rfl, mT_in 1018 rfl rfl, by decide, ⟨by decide, by decide, by decide +kernel⟩⟩
def MX0_bodyFrom : mM := (cX0_bodyFrom, yX0_bodyFrom, 5, some FieldType.int)
set_option maxRecDepth 100000 in
theorem ms_X0_bodyFrom : mMS MX0_bodyFrom 2 := ⟨mT_in 1006 (by decide +kernel) rfl, mT_in 135 (by decide +kernel) rfl, mT_in 1007 rfl rfl, by decide, ⟨by decide, by decide, by decide +kernel⟩⟩
def MX0_perform : mM := (cX0_perform, yX0_perform, 6, some FieldType.int)
set_option maxRecDepth 100000 in
theorem mv_X0_perform : mMV MX0_perform 4 := ⟨⟨mT_in 1003 (by decide +kernel) rfl, mT_in 79 (by decide +kernel) rfl⟩, mT_in 135 (by decide +kernel) rfl, mT_in 1004 rfl rfl, by decide, ⟨by decide, by decide, by decide +kernel⟩⟩
def MX0_run : mM := (cX0_run, yX0_run, 4, some FieldType.int)
set_option maxRecDepth 100000 in
theorem mv_X0_run : mMV MX0_run 3 := ⟨⟨mT_in 1021 (by decide +kernel) rfl, mT_in 81 (by decide +kernel) rfl⟩, mT_in 135 (by decide +kernel) rfl, mT_in 1022 rfl rfl, by decide, ⟨by decide, by decide, by decide +kernel⟩⟩
def MX1_init : mM := (cX1_init, yX1_init, 1, none)
set_option maxRecDepth 100000 in
theorem mi_X1_init : mMI MX1_init 0 := ⟨⟨rfl, mT_in 316 (by decide +kernel) rfl, rfl⟩, mT_in 133 (by decide +kernel) rfl, mT_in 317 rfl rfl, by decide, ⟨by decide, by decide, by decide +kernel⟩⟩
def MX1_clear : mM := (cX1_clear, yX1_clear, 1, none)
set_option maxRecDepth 100000 in
theorem mv_X1_clear : mMV MX1_clear 0 := ⟨⟨mT_in 661 (by decide +kernel) rfl, mT_in 29 (by decide +kernel) rfl⟩, mT_in 133 (by decide +kernel) rfl, mT_in 662 rfl rfl, by decide, ⟨by decide, by decide, by decide +kernel⟩⟩
def MX1_addCode : mM := (cX1_addCode, yX1_addCode, 2, none)
set_option maxRecDepth 100000 in
theorem mv_X1_addCode : mMV MX1_addCode 1 := ⟨⟨mT_in 759 (by decide +kernel) rfl, mT_in 40 (by decide +kernel) rfl⟩, mT_in 133 (by decide +kernel) rfl, mT_in 760 rfl rfl, by decide, ⟨by decide, by decide, by decide +kernel⟩⟩
def MX1_addTest : mM := (cX1_addTest, yX1_addTest, 4, none)
set_option maxRecDepth 100000 in
theorem mv_X1_addTest : mMV MX1_addTest 3 := ⟨⟨mT_in 755 (by decide +kernel) rfl, mT_in 39 (by decide +kernel) rfl⟩, mT_in 133 (by decide +kernel) rfl, mT_in 756 rfl rfl, by decide, ⟨by decide, by decide, by decide +kernel⟩⟩
def MX1_addWorth : mM := (cX1_addWorth, yX1_addWorth, 2, none)
set_option maxRecDepth 100000 in
theorem mv_X1_addWorth : mMV MX1_addWorth 1 := ⟨⟨mT_in 764 (by decide +kernel) rfl, mT_in 41 (by decide +kernel) rfl⟩, mT_in 133 (by decide +kernel) rfl, mT_in 765 rfl rfl, by decide, ⟨by decide, by decide, by decide +kernel⟩⟩
def MX1_bonus : mM := (cX1_bonus, yX1_bonus, 11, some FieldType.int)
set_option maxRecDepth 100000 in
theorem mv_X1_bonus : mMV MX1_bonus 5 := ⟨⟨mT_in 511 (by decide +kernel) rfl, mT_in 6 (by decide +kernel) rfl⟩, mT_in 133 (by decide +kernel) rfl, mT_in 512 rfl rfl, by decide, ⟨by decide, by decide, by decide +kernel⟩⟩
def MX1_testHolds : mM := (cX1_testHolds, yX1_testHolds, 5, some FieldType.boolean)
set_option maxRecDepth 100000 in
theorem mv_X1_testHolds : mMV MX1_testHolds 1 := ⟨⟨mT_in 515 (by decide +kernel) rfl, mT_in 7 (by decide +kernel) rfl⟩, mT_in 133 (by decide +kernel) rfl, mT_in 516 rfl rfl, by decide, ⟨by decide, by decide, by decide +kernel⟩⟩
def MX2_init : mM := (cX2_init, yX2_init, 1, none)
set_option maxRecDepth 100000 in
theorem mi_X2_init : mMI MX2_init 0 := ⟨⟨rfl, mT_in 303 (by decide +kernel) rfl, rfl⟩, mT_in 131 (by decide +kernel) rfl, mT_in 304 rfl rfl, by decide, ⟨by decide, by decide, by decide +kernel⟩⟩
def MX2_findAble : mM := (cX2_findAble, yX2_findAble, 5, none)
set_option maxRecDepth 100000 in
theorem mv_X2_findAble : mMV MX2_findAble 1 := ⟨⟨mT_in 801 (by decide +kernel) rfl, mT_in 49 (by decide +kernel) rfl⟩, mT_in 131 (by decide +kernel) rfl, mT_in 802 rfl rfl, by decide, ⟨by decide, by decide, by decide +kernel⟩⟩
def MX2_enough : mM := (cX2_enough, yX2_enough, 5, some FieldType.int)
set_option maxRecDepth 100000 in
theorem mv_X2_enough : mMV MX2_enough 1 := ⟨⟨mT_in 797 (by decide +kernel) rfl, mT_in 48 (by decide +kernel) rfl⟩, mT_in 131 (by decide +kernel) rfl, mT_in 798 rfl rfl, by decide, ⟨by decide, by decide, by decide +kernel⟩⟩
def MX2_answersAll : mM := (cX2_answersAll, yX2_answersAll, 4, some FieldType.boolean)
set_option maxRecDepth 100000 in
theorem mv_X2_answersAll : mMV MX2_answersAll 2 := ⟨⟨mT_in 806 (by decide +kernel) rfl, mT_in 50 (by decide +kernel) rfl⟩, mT_in 131 (by decide +kernel) rfl, mT_in 807 rfl rfl, by decide, ⟨by decide, by decide, by decide +kernel⟩⟩
def MX2_findMost : mM := (cX2_findMost, yX2_findMost, 6, none)
set_option maxRecDepth 100000 in
theorem mv_X2_findMost : mMV MX2_findMost 1 := ⟨⟨mT_in 815 (by decide +kernel) rfl, mT_in 52 (by decide +kernel) rfl⟩, mT_in 131 (by decide +kernel) rfl, mT_in 816 rfl rfl, by decide, ⟨by decide, by decide, by decide +kernel⟩⟩
def MX2_mostFrom : mM := (cX2_mostFrom, yX2_mostFrom, 4, some FieldType.int)
set_option maxRecDepth 100000 in
theorem mv_X2_mostFrom : mMV MX2_mostFrom 2 := ⟨⟨mT_in 820 (by decide +kernel) rfl, mT_in 53 (by decide +kernel) rfl⟩, mT_in 131 (by decide +kernel) rfl, mT_in 821 rfl rfl, by decide, ⟨by decide, by decide, by decide +kernel⟩⟩
def MX2_mostBy : mM := (cX2_mostBy, yX2_mostBy, 6, some FieldType.int)
set_option maxRecDepth 100000 in
theorem mv_X2_mostBy : mMV MX2_mostBy 4 := ⟨⟨mT_in 824 (by decide +kernel) rfl, mT_in 54 (by decide +kernel) rfl⟩, mT_in 131 (by decide +kernel) rfl, mT_in 825 rfl rfl, by decide, ⟨by decide, by decide, by decide +kernel⟩⟩
def MX2_loadGoods : mM := (cX2_loadGoods, yX2_loadGoods, 2, some FieldType.int)
set_option maxRecDepth 100000 in
theorem mv_X2_loadGoods : mMV MX2_loadGoods 1 := ⟨⟨mT_in 811 (by decide +kernel) rfl, mT_in 51 (by decide +kernel) rfl⟩, mT_in 131 (by decide +kernel) rfl, mT_in 812 rfl rfl, by decide, ⟨by decide, by decide, by decide +kernel⟩⟩
def MX2_loadGuard : mM := (cX2_loadGuard, yX2_loadGuard, 6, some FieldType.int)
set_option maxRecDepth 100000 in
theorem mv_X2_loadGuard : mMV MX2_loadGuard 2 := ⟨⟨mT_in 829 (by decide +kernel) rfl, mT_in 55 (by decide +kernel) rfl⟩, mT_in 131 (by decide +kernel) rfl, mT_in 830 rfl rfl, by decide, ⟨by decide, by decide, by decide +kernel⟩⟩
def MX2_firstBest : mM := (cX2_firstBest, yX2_firstBest, 5, some FieldType.int)
set_option maxRecDepth 100000 in
theorem mv_X2_firstBest : mMV MX2_firstBest 3 := ⟨⟨mT_in 833 (by decide +kernel) rfl, mT_in 56 (by decide +kernel) rfl⟩, mT_in 131 (by decide +kernel) rfl, mT_in 834 rfl rfl, by decide, ⟨by decide, by decide, by decide +kernel⟩⟩
def MX2_study : mM := (cX2_study, yX2_study, 7, some FieldType.int)
set_option maxRecDepth 100000 in
theorem mv_X2_study : mMV MX2_study 3 := ⟨⟨mT_in 578 (by decide +kernel) rfl, mT_in 20 (by decide +kernel) rfl⟩, mT_in 131 (by decide +kernel) rfl, mT_in 579 rfl rfl, by decide, ⟨by decide, by decide, by decide +kernel⟩⟩
def MX2_stumps : mM := (cX2_stumps, yX2_stumps, 8, some FieldType.int)
set_option maxRecDepth 100000 in
theorem mv_X2_stumps : mMV MX2_stumps 2 := ⟨⟨mT_in 498 (by decide +kernel) rfl, mT_in 3 (by decide +kernel) rfl⟩, mT_in 131 (by decide +kernel) rfl, mT_in 499 rfl rfl, by decide, ⟨by decide, by decide, by decide +kernel⟩⟩
def MX2_findStumped : mM := (cX2_findStumped, yX2_findStumped, 5, none)
set_option maxRecDepth 100000 in
theorem mv_X2_findStumped : mMV MX2_findStumped 3 := ⟨⟨mT_in 503 (by decide +kernel) rfl, mT_in 4 (by decide +kernel) rfl⟩, mT_in 131 (by decide +kernel) rfl, mT_in 504 rfl rfl, by decide, ⟨by decide, by decide, by decide +kernel⟩⟩
def MX2_fits : mM := (cX2_fits, yX2_fits, 10, some FieldType.int)
set_option maxRecDepth 100000 in
theorem mv_X2_fits : mMV MX2_fits 5 := ⟨⟨mT_in 507 (by decide +kernel) rfl, mT_in 5 (by decide +kernel) rfl⟩, mT_in 131 (by decide +kernel) rfl, mT_in 508 rfl rfl, by decide, ⟨by decide, by decide, by decide +kernel⟩⟩
def MX2_findRows : mM := (cX2_findRows, yX2_findRows, 6, none)
set_option maxRecDepth 100000 in
theorem mv_X2_findRows : mMV MX2_findRows 3 := ⟨⟨mT_in 534 (by decide +kernel) rfl, mT_in 10 (by decide +kernel) rfl⟩, mT_in 131 (by decide +kernel) rfl, mT_in 535 rfl rfl, by decide, ⟨by decide, by decide, by decide +kernel⟩⟩
def MX2_allFit : mM := (cX2_allFit, yX2_allFit, 3, some FieldType.boolean)
set_option maxRecDepth 100000 in
theorem mv_X2_allFit : mMV MX2_allFit 1 := ⟨⟨mT_in 558 (by decide +kernel) rfl, mT_in 16 (by decide +kernel) rfl⟩, mT_in 131 (by decide +kernel) rfl, mT_in 559 rfl rfl, by decide, ⟨by decide, by decide, by decide +kernel⟩⟩
def MX2_knewCount : mM := (cX2_knewCount, yX2_knewCount, 6, some FieldType.int)
set_option maxRecDepth 100000 in
theorem mv_X2_knewCount : mMV MX2_knewCount 2 := ⟨⟨mT_in 530 (by decide +kernel) rfl, mT_in 9 (by decide +kernel) rfl⟩, mT_in 131 (by decide +kernel) rfl, mT_in 531 rfl rfl, by decide, ⟨by decide, by decide, by decide +kernel⟩⟩
def MX2_knewLeast : mM := (cX2_knewLeast, yX2_knewLeast, 5, some FieldType.int)
set_option maxRecDepth 100000 in
theorem mv_X2_knewLeast : mMV MX2_knewLeast 2 := ⟨⟨mT_in 562 (by decide +kernel) rfl, mT_in 17 (by decide +kernel) rfl⟩, mT_in 131 (by decide +kernel) rfl, mT_in 563 rfl rfl, by decide, ⟨by decide, by decide, by decide +kernel⟩⟩
def MX2_fitsWith : mM := (cX2_fitsWith, yX2_fitsWith, 5, some FieldType.boolean)
set_option maxRecDepth 100000 in
theorem mv_X2_fitsWith : mMV MX2_fitsWith 3 := ⟨⟨mT_in 903 (by decide +kernel) rfl, mT_in 67 (by decide +kernel) rfl⟩, mT_in 131 (by decide +kernel) rfl, mT_in 904 rfl rfl, by decide, ⟨by decide, by decide, by decide +kernel⟩⟩
def MX2_canCount : mM := (cX2_canCount, yX2_canCount, 5, some FieldType.int)
set_option maxRecDepth 100000 in
theorem mv_X2_canCount : mMV MX2_canCount 2 := ⟨⟨mT_in 899 (by decide +kernel) rfl, mT_in 66 (by decide +kernel) rfl⟩, mT_in 131 (by decide +kernel) rfl, mT_in 900 rfl rfl, by decide, ⟨by decide, by decide, by decide +kernel⟩⟩
def MX2_canLeast : mM := (cX2_canLeast, yX2_canLeast, 4, some FieldType.int)
set_option maxRecDepth 100000 in
theorem mv_X2_canLeast : mMV MX2_canLeast 2 := ⟨⟨mT_in 907 (by decide +kernel) rfl, mT_in 68 (by decide +kernel) rfl⟩, mT_in 131 (by decide +kernel) rfl, mT_in 908 rfl rfl, by decide, ⟨by decide, by decide, by decide +kernel⟩⟩
def MX2_oddsAbove : mM := (cX2_oddsAbove, yX2_oddsAbove, 6, some FieldType.int)
set_option maxRecDepth 100000 in
theorem mv_X2_oddsAbove : mMV MX2_oddsAbove 3 := ⟨⟨mT_in 919 (by decide +kernel) rfl, mT_in 69 (by decide +kernel) rfl⟩, mT_in 131 (by decide +kernel) rfl, mT_in 920 rfl rfl, by decide, ⟨by decide, by decide, by decide +kernel⟩⟩
def MX3_init : mM := (cX3_init, yX3_init, 1, none)
set_option maxRecDepth 100000 in
theorem mi_X3_init : mMI MX3_init 0 := ⟨⟨rfl, mT_in 191 (by decide +kernel) rfl, rfl⟩, mT_in 129 (by decide +kernel) rfl, mT_in 192 rfl rfl, by decide, ⟨by decide, by decide, by decide +kernel⟩⟩
def MX3_become : mM := (cX3_become, yX3_become, 4, none)
set_option maxRecDepth 100000 in
theorem mv_X3_become : mMV MX3_become 3 := ⟨⟨mT_in 483 (by decide +kernel) rfl, mT_in 1 (by decide +kernel) rfl⟩, mT_in 129 (by decide +kernel) rfl, mT_in 484 rfl rfl, by decide, ⟨by decide, by decide, by decide +kernel⟩⟩
def MX3_copy : mM := (cX3_copy, yX3_copy, 2, none)
set_option maxRecDepth 100000 in
theorem mv_X3_copy : mMV MX3_copy 1 := ⟨⟨mT_in 863 (by decide +kernel) rfl, mT_in 60 (by decide +kernel) rfl⟩, mT_in 129 (by decide +kernel) rfl, mT_in 864 rfl rfl, by decide, ⟨by decide, by decide, by decide +kernel⟩⟩
def MX3_changeRow : mM := (cX3_changeRow, yX3_changeRow, 4, some FieldType.int)
set_option maxRecDepth 100000 in
theorem mv_X3_changeRow : mMV MX3_changeRow 2 := ⟨⟨mT_in 637 (by decide +kernel) rfl, mT_in 25 (by decide +kernel) rfl⟩, mT_in 129 (by decide +kernel) rfl, mT_in 638 rfl rfl, by decide, ⟨by decide, by decide, by decide +kernel⟩⟩
def MX4_init : mM := (cX4_init, yX4_init, 1, none)
set_option maxRecDepth 100000 in
theorem mi_X4_init : mMI MX4_init 0 := ⟨⟨rfl, mT_in 228 (by decide +kernel) rfl, rfl⟩, mT_in 130 (by decide +kernel) rfl, mT_in 229 rfl rfl, by decide, ⟨by decide, by decide, by decide +kernel⟩⟩
def MX4_become : mM := (cX4_become, yX4_become, 3, none)
set_option maxRecDepth 100000 in
theorem mv_X4_become : mMV MX4_become 2 := ⟨⟨mT_in 597 (by decide +kernel) rfl, mT_in 22 (by decide +kernel) rfl⟩, mT_in 130 (by decide +kernel) rfl, mT_in 598 rfl rfl, by decide, ⟨by decide, by decide, by decide +kernel⟩⟩
def MX4_copy : mM := (cX4_copy, yX4_copy, 2, none)
set_option maxRecDepth 100000 in
theorem mv_X4_copy : mMV MX4_copy 1 := ⟨⟨mT_in 870 (by decide +kernel) rfl, mT_in 61 (by decide +kernel) rfl⟩, mT_in 130 (by decide +kernel) rfl, mT_in 871 rfl rfl, by decide, ⟨by decide, by decide, by decide +kernel⟩⟩
def MX5_init : mM := (cX5_init, yX5_init, 1, none)
set_option maxRecDepth 100000 in
theorem mi_X5_init : mMI MX5_init 0 := ⟨⟨rfl, mT_in 368 (by decide +kernel) rfl, rfl⟩, mT_in 134 (by decide +kernel) rfl, mT_in 369 rfl rfl, by decide, ⟨by decide, by decide, by decide +kernel⟩⟩
def MX5_add : mM := (cX5_add, yX5_add, 2, some FieldType.int)
set_option maxRecDepth 100000 in
theorem mv_X5_add : mMV MX5_add 1 := ⟨⟨mT_in 645 (by decide +kernel) rfl, mT_in 26 (by decide +kernel) rfl⟩, mT_in 134 (by decide +kernel) rfl, mT_in 646 rfl rfl, by decide, ⟨by decide, by decide, by decide +kernel⟩⟩
def MX5_readInto : mM := (cX5_readInto, yX5_readInto, 4, some FieldType.int)
set_option maxRecDepth 100000 in
theorem mv_X5_readInto : mMV MX5_readInto 1 := ⟨⟨mT_in 657 (by decide +kernel) rfl, mT_in 28 (by decide +kernel) rfl⟩, mT_in 134 (by decide +kernel) rfl, mT_in 658 rfl rfl, by decide, ⟨by decide, by decide, by decide +kernel⟩⟩
def MX5_goTo : mM := (cX5_goTo, yX5_goTo, 2, none)
set_option maxRecDepth 100000 in
theorem mv_X5_goTo : mMV MX5_goTo 1 := ⟨⟨mT_in 665 (by decide +kernel) rfl, mT_in 30 (by decide +kernel) rfl⟩, mT_in 134 (by decide +kernel) rfl, mT_in 666 rfl rfl, by decide, ⟨by decide, by decide, by decide +kernel⟩⟩
def MX5_skip : mM := (cX5_skip, yX5_skip, 2, some FieldType.boolean)
set_option maxRecDepth 100000 in
theorem mv_X5_skip : mMV MX5_skip 1 := ⟨⟨mT_in 728 (by decide +kernel) rfl, mT_in 33 (by decide +kernel) rfl⟩, mT_in 134 (by decide +kernel) rfl, mT_in 729 rfl rfl, by decide, ⟨by decide, by decide, by decide +kernel⟩⟩
def MX5_placeIn : mM := (cX5_placeIn, yX5_placeIn, 3, some FieldType.int)
set_option maxRecDepth 100000 in
theorem mv_X5_placeIn : mMV MX5_placeIn 1 := ⟨⟨mT_in 737 (by decide +kernel) rfl, mT_in 35 (by decide +kernel) rfl⟩, mT_in 134 (by decide +kernel) rfl, mT_in 738 rfl rfl, by decide, ⟨by decide, by decide, by decide +kernel⟩⟩
def MX5_readClause : mM := (cX5_readClause, yX5_readClause, 3, some FieldType.boolean)
set_option maxRecDepth 100000 in
theorem mv_X5_readClause : mMV MX5_readClause 0 := ⟨⟨mT_in 669 (by decide +kernel) rfl, mT_in 31 (by decide +kernel) rfl⟩, mT_in 134 (by decide +kernel) rfl, mT_in 670 rfl rfl, by decide, ⟨by decide, by decide, by decide +kernel⟩⟩
def MX5_readNumbered : mM := (cX5_readNumbered, yX5_readNumbered, 3, some FieldType.boolean)
set_option maxRecDepth 100000 in
theorem mv_X5_readNumbered : mMV MX5_readNumbered 1 := ⟨⟨mT_in 676 (by decide +kernel) rfl, mT_in 32 (by decide +kernel) rfl⟩, mT_in 134 (by decide +kernel) rfl, mT_in 677 rfl rfl, by decide, ⟨by decide, by decide, by decide +kernel⟩⟩
def MX5_readNumber : mM := (cX5_readNumber, yX5_readNumber, 3, some FieldType.boolean)
set_option maxRecDepth 100000 in
theorem mv_X5_readNumber : mMV MX5_readNumber 0 := ⟨⟨mT_in 732 (by decide +kernel) rfl, mT_in 34 (by decide +kernel) rfl⟩, mT_in 134 (by decide +kernel) rfl, mT_in 733 rfl rfl, by decide, ⟨by decide, by decide, by decide +kernel⟩⟩
def MX5_readEither : mM := (cX5_readEither, yX5_readEither, 5, some FieldType.boolean)
set_option maxRecDepth 100000 in
theorem mv_X5_readEither : mMV MX5_readEither 1 := ⟨⟨mT_in 741 (by decide +kernel) rfl, mT_in 36 (by decide +kernel) rfl⟩, mT_in 134 (by decide +kernel) rfl, mT_in 742 rfl rfl, by decide, ⟨by decide, by decide, by decide +kernel⟩⟩
def MX5_readPart : mM := (cX5_readPart, yX5_readPart, 2, some FieldType.boolean)
set_option maxRecDepth 100000 in
theorem mv_X5_readPart : mMV MX5_readPart 1 := ⟨⟨mT_in 745 (by decide +kernel) rfl, mT_in 37 (by decide +kernel) rfl⟩, mT_in 134 (by decide +kernel) rfl, mT_in 746 rfl rfl, by decide, ⟨by decide, by decide, by decide +kernel⟩⟩
def MX5_readTest : mM := (cX5_readTest, yX5_readTest, 3, some FieldType.boolean)
set_option maxRecDepth 100000 in
theorem mv_X5_readTest : mMV MX5_readTest 0 := ⟨⟨mT_in 749 (by decide +kernel) rfl, mT_in 38 (by decide +kernel) rfl⟩, mT_in 134 (by decide +kernel) rfl, mT_in 750 rfl rfl, by decide, ⟨by decide, by decide, by decide +kernel⟩⟩
def MX6_init : mM := (cX6_init, yX6_init, 2, none)
set_option maxRecDepth 100000 in
theorem mi_X6_init : mMI MX6_init 1 := ⟨⟨rfl, mT_in 167 (by decide +kernel) rfl, rfl⟩, mT_in 127 (by decide +kernel) rfl, mT_in 168 rfl rfl, by decide, ⟨by decide, by decide, by decide +kernel⟩⟩
def MX6_empty : mM := (cX6_empty, yX6_empty, 1, some FieldType.int)
set_option maxRecDepth 100000 in
theorem mv_X6_empty : mMV MX6_empty 0 := ⟨⟨mT_in 887 (by decide +kernel) rfl, mT_in 64 (by decide +kernel) rfl⟩, mT_in 127 (by decide +kernel) rfl, mT_in 888 rfl rfl, by decide, ⟨by decide, by decide, by decide +kernel⟩⟩
def MX6_add : mM := (cX6_add, yX6_add, 4, some FieldType.int)
set_option maxRecDepth 100000 in
theorem mv_X6_add : mMV MX6_add 3 := ⟨⟨mT_in 891 (by decide +kernel) rfl, mT_in 65 (by decide +kernel) rfl⟩, mT_in 127 (by decide +kernel) rfl, mT_in 892 rfl rfl, by decide, ⟨by decide, by decide, by decide +kernel⟩⟩
def MX6_first : mM := (cX6_first, yX6_first, 2, some FieldType.int)
set_option maxRecDepth 100000 in
theorem mv_X6_first : mMV MX6_first 1 := ⟨⟨mT_in 550 (by decide +kernel) rfl, mT_in 14 (by decide +kernel) rfl⟩, mT_in 127 (by decide +kernel) rfl, mT_in 551 rfl rfl, by decide, ⟨by decide, by decide, by decide +kernel⟩⟩
def MX6_second : mM := (cX6_second, yX6_second, 2, some FieldType.int)
set_option maxRecDepth 100000 in
theorem mv_X6_second : mMV MX6_second 1 := ⟨⟨mT_in 538 (by decide +kernel) rfl, mT_in 11 (by decide +kernel) rfl⟩, mT_in 127 (by decide +kernel) rfl, mT_in 539 rfl rfl, by decide, ⟨by decide, by decide, by decide +kernel⟩⟩
def MX6_third : mM := (cX6_third, yX6_third, 2, some FieldType.int)
set_option maxRecDepth 100000 in
theorem mv_X6_third : mMV MX6_third 1 := ⟨⟨mT_in 554 (by decide +kernel) rfl, mT_in 15 (by decide +kernel) rfl⟩, mT_in 127 (by decide +kernel) rfl, mT_in 555 rfl rfl, by decide, ⟨by decide, by decide, by decide +kernel⟩⟩
def MX6_cell : mM := (cX6_cell, yX6_cell, 3, some FieldType.int)
set_option maxRecDepth 100000 in
theorem mv_X6_cell : mMV MX6_cell 2 := ⟨⟨mT_in 542 (by decide +kernel) rfl, mT_in 12 (by decide +kernel) rfl⟩, mT_in 127 (by decide +kernel) rfl, mT_in 543 rfl rfl, by decide, ⟨by decide, by decide, by decide +kernel⟩⟩
def MX6_copy : mM := (cX6_copy, yX6_copy, 2, none)
set_option maxRecDepth 100000 in
theorem mv_X6_copy : mMV MX6_copy 1 := ⟨⟨mT_in 874 (by decide +kernel) rfl, mT_in 62 (by decide +kernel) rfl⟩, mT_in 127 (by decide +kernel) rfl, mT_in 875 rfl rfl, by decide, ⟨by decide, by decide, by decide +kernel⟩⟩
def MX7_init : mM := (cX7_init, yX7_init, 2, none)
set_option maxRecDepth 100000 in
theorem mi_X7_init : mMI MX7_init 0 := ⟨⟨rfl, mT_in 309 (by decide +kernel) rfl, rfl⟩, mT_in 132 (by decide +kernel) rfl, mT_in 310 rfl rfl, by decide, ⟨by decide, by decide, by decide +kernel⟩⟩
def MX7_spareBorder : mM := (cX7_spareBorder, yX7_spareBorder, 1, some ((FieldType.object "BorderQuestions$Border")))
set_option maxRecDepth 100000 in
theorem mv_X7_spareBorder : mMV MX7_spareBorder 0 := ⟨⟨mT_in 653 (by decide +kernel) rfl, mT_in 27 (by decide +kernel) rfl⟩, mT_in 132 (by decide +kernel) rfl, mT_in 654 rfl rfl, by decide, ⟨by decide, by decide, by decide +kernel⟩⟩
def MX7_keepSpare : mM := (cX7_keepSpare, yX7_keepSpare, 1, some FieldType.int)
set_option maxRecDepth 100000 in
theorem mv_X7_keepSpare : mMV MX7_keepSpare 0 := ⟨⟨mT_in 768 (by decide +kernel) rfl, mT_in 42 (by decide +kernel) rfl⟩, mT_in 132 (by decide +kernel) rfl, mT_in 769 rfl rfl, by decide, ⟨by decide, by decide, by decide +kernel⟩⟩
def MX7_wit : mM := (cX7_wit, yX7_wit, 8, some FieldType.int)
set_option maxRecDepth 100000 in
theorem mv_X7_wit : mMV MX7_wit 4 := ⟨⟨mT_in 571 (by decide +kernel) rfl, mT_in 19 (by decide +kernel) rfl⟩, mT_in 132 (by decide +kernel) rfl, mT_in 572 rfl rfl, by decide, ⟨by decide, by decide, by decide +kernel⟩⟩
def MX7_witKnowing : mM := (cX7_witKnowing, yX7_witKnowing, 9, some FieldType.int)
set_option maxRecDepth 100000 in
theorem mv_X7_witKnowing : mMV MX7_witKnowing 6 := ⟨⟨mT_in 519 (by decide +kernel) rfl, mT_in 8 (by decide +kernel) rfl⟩, mT_in 132 (by decide +kernel) rfl, mT_in 520 rfl rfl, by decide, ⟨by decide, by decide, by decide +kernel⟩⟩
def MX7_answers : mM := (cX7_answers, yX7_answers, 5, some FieldType.boolean)
set_option maxRecDepth 100000 in
theorem mv_X7_answers : mMV MX7_answers 3 := ⟨⟨mT_in 626 (by decide +kernel) rfl, mT_in 24 (by decide +kernel) rfl⟩, mT_in 132 (by decide +kernel) rfl, mT_in 627 rfl rfl, by decide, ⟨by decide, by decide, by decide +kernel⟩⟩
def MX7_putTo : mM := (cX7_putTo, yX7_putTo, 7, none)
set_option maxRecDepth 100000 in
theorem mv_X7_putTo : mMV MX7_putTo 3 := ⟨⟨mT_in 621 (by decide +kernel) rfl, mT_in 23 (by decide +kernel) rfl⟩, mT_in 132 (by decide +kernel) rfl, mT_in 622 rfl rfl, by decide, ⟨by decide, by decide, by decide +kernel⟩⟩
def MX7_letPass : mM := (cX7_letPass, yX7_letPass, 4, none)
set_option maxRecDepth 100000 in
theorem mv_X7_letPass : mMV MX7_letPass 2 := ⟨⟨mT_in 844 (by decide +kernel) rfl, mT_in 57 (by decide +kernel) rfl⟩, mT_in 132 (by decide +kernel) rfl, mT_in 845 rfl rfl, by decide, ⟨by decide, by decide, by decide +kernel⟩⟩
def MX7_letHourPass : mM := (cX7_letHourPass, yX7_letHourPass, 5, none)
set_option maxRecDepth 100000 in
theorem mv_X7_letHourPass : mMV MX7_letHourPass 1 := ⟨⟨mT_in 848 (by decide +kernel) rfl, mT_in 58 (by decide +kernel) rfl⟩, mT_in 132 (by decide +kernel) rfl, mT_in 849 rfl rfl, by decide, ⟨by decide, by decide, by decide +kernel⟩⟩
def MX7_carryOut : mM := (cX7_carryOut, yX7_carryOut, 5, none)
set_option maxRecDepth 100000 in
theorem mv_X7_carryOut : mMV MX7_carryOut 3 := ⟨⟨mT_in 951 (by decide +kernel) rfl, mT_in 72 (by decide +kernel) rfl⟩, mT_in 132 (by decide +kernel) rfl, mT_in 952 rfl rfl, by decide, ⟨by decide, by decide, by decide +kernel⟩⟩
def MX8_init : mM := (cX8_init, yX8_init, 1, none)
set_option maxRecDepth 100000 in
theorem mi_X8_init : mMI MX8_init 0 := ⟨⟨rfl, mT_in 419 (by decide +kernel) rfl, rfl⟩, mT_in 136 (by decide +kernel) rfl, mT_in 420 rfl rfl, by decide, ⟨by decide, by decide, by decide +kernel⟩⟩
def MX8_holds : mM := (cX8_holds, yX8_holds, 1, some FieldType.boolean)
set_option maxRecDepth 100000 in
theorem mv_X8_holds : mMV MX8_holds 0 := ⟨⟨mT_in 971 (by decide +kernel) rfl, mT_in 74 (by decide +kernel) rfl⟩, mT_in 136 (by decide +kernel) rfl, mT_in 972 rfl rfl, by decide, ⟨by decide, by decide, by decide +kernel⟩⟩
def MX8_become : mM := (cX8_become, yX8_become, 3, none)
set_option maxRecDepth 100000 in
theorem mv_X8_become : mMV MX8_become 2 := ⟨⟨mT_in 1048 (by decide +kernel) rfl, mT_in 83 (by decide +kernel) rfl⟩, mT_in 136 (by decide +kernel) rfl, mT_in 1049 rfl rfl, by decide, ⟨by decide, by decide, by decide +kernel⟩⟩
def MX8_hasPlace : mM := (cX8_hasPlace, yX8_hasPlace, 2, some FieldType.boolean)
set_option maxRecDepth 100000 in
theorem mv_X8_hasPlace : mMV MX8_hasPlace 1 := ⟨⟨mT_in 979 (by decide +kernel) rfl, mT_in 76 (by decide +kernel) rfl⟩, mT_in 136 (by decide +kernel) rfl, mT_in 980 rfl rfl, by decide, ⟨by decide, by decide, by decide +kernel⟩⟩
def MX8_hasRun : mM := (cX8_hasRun, yX8_hasRun, 3, some FieldType.boolean)
set_option maxRecDepth 100000 in
theorem mv_X8_hasRun : mMV MX8_hasRun 2 := ⟨⟨mT_in 1078 (by decide +kernel) rfl, mT_in 86 (by decide +kernel) rfl⟩, mT_in 136 (by decide +kernel) rfl, mT_in 1079 rfl rfl, by decide, ⟨by decide, by decide, by decide +kernel⟩⟩
def MX8_get : mM := (cX8_get, yX8_get, 2, some FieldType.long)
set_option maxRecDepth 100000 in
theorem mv_X8_get : mMV MX8_get 1 := ⟨⟨mT_in 975 (by decide +kernel) rfl, mT_in 75 (by decide +kernel) rfl⟩, mT_in 136 (by decide +kernel) rfl, mT_in 976 rfl rfl, by decide, ⟨by decide, by decide, by decide +kernel⟩⟩
def MX8_put : mM := (cX8_put, yX8_put, 4, none)
set_option maxRecDepth 100000 in
theorem mv_X8_put : mMV MX8_put 2 := ⟨⟨mT_in 1062 (by decide +kernel) rfl, mT_in 84 (by decide +kernel) rfl⟩, mT_in 136 (by decide +kernel) rfl, mT_in 1063 rfl rfl, by decide, ⟨by decide, by decide, by decide +kernel⟩⟩
def MX8_cut : mM := (cX8_cut, yX8_cut, 3, some FieldType.long)
set_option maxRecDepth 100000 in
theorem mv_X8_cut : mMV MX8_cut 1 := ⟨⟨mT_in 1066 (by decide +kernel) rfl, mT_in 85 (by decide +kernel) rfl⟩, mT_in 136 (by decide +kernel) rfl, mT_in 1067 rfl rfl, by decide, ⟨by decide, by decide, by decide +kernel⟩⟩
def MX9_init : mM := (cX9_init, yX9_init, 2, none)
set_option maxRecDepth 100000 in
theorem mi_X9_init : mMI MX9_init 0 := ⟨⟨rfl, mT_in 157 (by decide +kernel) rfl, rfl⟩, mT_in 126 (by decide +kernel) rfl, mT_in 158 rfl rfl, by decide, ⟨by decide, by decide, by decide +kernel⟩⟩
def MX9_guardAt : mM := (cX9_guardAt, yX9_guardAt, 2, some ((FieldType.object "BorderQuestions$Guard")))
set_option maxRecDepth 100000 in
theorem mv_X9_guardAt : mMV MX9_guardAt 1 := ⟨⟨mT_in 494 (by decide +kernel) rfl, mT_in 2 (by decide +kernel) rfl⟩, mT_in 126 (by decide +kernel) rfl, mT_in 495 rfl rfl, by decide, ⟨by decide, by decide, by decide +kernel⟩⟩
def MX9_questionAt : mM := (cX9_questionAt, yX9_questionAt, 2, some ((FieldType.object "BorderQuestions$Question")))
set_option maxRecDepth 100000 in
theorem mv_X9_questionAt : mMV MX9_questionAt 1 := ⟨⟨mT_in 546 (by decide +kernel) rfl, mT_in 13 (by decide +kernel) rfl⟩, mT_in 126 (by decide +kernel) rfl, mT_in 547 rfl rfl, by decide, ⟨by decide, by decide, by decide +kernel⟩⟩
def MX9_addGuard : mM := (cX9_addGuard, yX9_addGuard, 4, some FieldType.int)
set_option maxRecDepth 100000 in
theorem mv_X9_addGuard : mMV MX9_addGuard 3 := ⟨⟨mT_in 479 (by decide +kernel) rfl, mT_in 0 (by decide +kernel) rfl⟩, mT_in 126 (by decide +kernel) rfl, mT_in 480 rfl rfl, by decide, ⟨by decide, by decide, by decide +kernel⟩⟩
def MX9_addQuestion : mM := (cX9_addQuestion, yX9_addQuestion, 3, some FieldType.int)
set_option maxRecDepth 100000 in
theorem mv_X9_addQuestion : mMV MX9_addQuestion 2 := ⟨⟨mT_in 593 (by decide +kernel) rfl, mT_in 21 (by decide +kernel) rfl⟩, mT_in 126 (by decide +kernel) rfl, mT_in 594 rfl rfl, by decide, ⟨by decide, by decide, by decide +kernel⟩⟩
def MX9_copy : mM := (cX9_copy, yX9_copy, 3, none)
set_option maxRecDepth 100000 in
theorem mv_X9_copy : mMV MX9_copy 1 := ⟨⟨mT_in 859 (by decide +kernel) rfl, mT_in 59 (by decide +kernel) rfl⟩, mT_in 126 (by decide +kernel) rfl, mT_in 860 rfl rfl, by decide, ⟨by decide, by decide, by decide +kernel⟩⟩
def MX9_rest : mM := (cX9_rest, yX9_rest, 1, some FieldType.int)
set_option maxRecDepth 100000 in
theorem mv_X9_rest : mMV MX9_rest 0 := ⟨⟨mT_in 776 (by decide +kernel) rfl, mT_in 43 (by decide +kernel) rfl⟩, mT_in 126 (by decide +kernel) rfl, mT_in 777 rfl rfl, by decide, ⟨by decide, by decide, by decide +kernel⟩⟩
def MX9_isWaiting : mM := (cX9_isWaiting, yX9_isWaiting, 3, some FieldType.boolean)
set_option maxRecDepth 100000 in
theorem mv_X9_isWaiting : mMV MX9_isWaiting 1 := ⟨⟨mT_in 793 (by decide +kernel) rfl, mT_in 47 (by decide +kernel) rfl⟩, mT_in 126 (by decide +kernel) rfl, mT_in 794 rfl rfl, by decide, ⟨by decide, by decide, by decide +kernel⟩⟩
def MX9_goodsThrough : mM := (cX9_goodsThrough, yX9_goodsThrough, 4, some FieldType.int)
set_option maxRecDepth 100000 in
theorem mv_X9_goodsThrough : mMV MX9_goodsThrough 0 := ⟨⟨mT_in 780 (by decide +kernel) rfl, mT_in 44 (by decide +kernel) rfl⟩, mT_in 126 (by decide +kernel) rfl, mT_in 781 rfl rfl, by decide, ⟨by decide, by decide, by decide +kernel⟩⟩
def MX9_finedCount : mM := (cX9_finedCount, yX9_finedCount, 4, some FieldType.int)
set_option maxRecDepth 100000 in
theorem mv_X9_finedCount : mMV MX9_finedCount 0 := ⟨⟨mT_in 785 (by decide +kernel) rfl, mT_in 45 (by decide +kernel) rfl⟩, mT_in 126 (by decide +kernel) rfl, mT_in 786 rfl rfl, by decide, ⟨by decide, by decide, by decide +kernel⟩⟩
def MX9_waiting : mM := (cX9_waiting, yX9_waiting, 3, some FieldType.int)
set_option maxRecDepth 100000 in
theorem mv_X9_waiting : mMV MX9_waiting 0 := ⟨⟨mT_in 789 (by decide +kernel) rfl, mT_in 46 (by decide +kernel) rfl⟩, mT_in 126 (by decide +kernel) rfl, mT_in 790 rfl rfl, by decide, ⟨by decide, by decide, by decide +kernel⟩⟩
def MX9_knownCount : mM := (cX9_knownCount, yX9_knownCount, 4, some FieldType.int)
set_option maxRecDepth 100000 in
theorem mv_X9_knownCount : mMV MX9_knownCount 0 := ⟨⟨mT_in 931 (by decide +kernel) rfl, mT_in 70 (by decide +kernel) rfl⟩, mT_in 126 (by decide +kernel) rfl, mT_in 932 rfl rfl, by decide, ⟨by decide, by decide, by decide +kernel⟩⟩
def MX10_init : mM := (cX10_init, yX10_init, 2, none)
set_option maxRecDepth 100000 in
theorem mi_X10_init : mMI MX10_init 0 := ⟨⟨rfl, mT_in 149 (by decide +kernel) rfl, rfl⟩, mT_in 125 (by decide +kernel) rfl, mT_in 150 rfl rfl, by decide, ⟨by decide, by decide, by decide +kernel⟩⟩
def MX10_guard : mM := (cX10_guard, yX10_guard, 4, some FieldType.int)
set_option maxRecDepth 100000 in
theorem mv_X10_guard : mMV MX10_guard 3 := ⟨⟨mT_in 465 (by decide +kernel) rfl, mT_in 466 (by decide +kernel) rfl⟩, mT_in 125 (by decide +kernel) rfl, mT_in 467 rfl rfl, by decide, ⟨by decide, by decide, by decide +kernel⟩⟩
def MX10_of : mM := (cX10_of, yX10_of, 4, some FieldType.int)
set_option maxRecDepth 100000 in
theorem mv_X10_of : mMV MX10_of 2 := ⟨⟨mT_in 489 (by decide +kernel) rfl, mT_in 490 (by decide +kernel) rfl⟩, mT_in 125 (by decide +kernel) rfl, mT_in 491 rfl rfl, by decide, ⟨by decide, by decide, by decide +kernel⟩⟩
def MX10_ofQuestion : mM := (cX10_ofQuestion, yX10_ofQuestion, 6, some FieldType.int)
set_option maxRecDepth 100000 in
theorem mv_X10_ofQuestion : mMV MX10_ofQuestion 3 := ⟨⟨mT_in 566 (by decide +kernel) rfl, mT_in 18 (by decide +kernel) rfl⟩, mT_in 125 (by decide +kernel) rfl, mT_in 567 rfl rfl, by decide, ⟨by decide, by decide, by decide +kernel⟩⟩
def MX10_question : mM := (cX10_question, yX10_question, 3, some FieldType.int)
set_option maxRecDepth 100000 in
theorem mv_X10_question : mMV MX10_question 2 := ⟨⟨mT_in 585 (by decide +kernel) rfl, mT_in 586 (by decide +kernel) rfl⟩, mT_in 125 (by decide +kernel) rfl, mT_in 587 rfl rfl, by decide, ⟨by decide, by decide, by decide +kernel⟩⟩
def MX10_sack : mM := (cX10_sack, yX10_sack, 4, some FieldType.int)
set_option maxRecDepth 100000 in
theorem mv_X10_sack : mMV MX10_sack 2 := ⟨⟨mT_in 600 (by decide +kernel) rfl, mT_in 601 (by decide +kernel) rfl⟩, mT_in 125 (by decide +kernel) rfl, mT_in 602 rfl rfl, by decide, ⟨by decide, by decide, by decide +kernel⟩⟩
def MX10_know : mM := (cX10_know, yX10_know, 5, some FieldType.int)
set_option maxRecDepth 100000 in
theorem mv_X10_know : mMV MX10_know 2 := ⟨⟨mT_in 604 (by decide +kernel) rfl, mT_in 605 (by decide +kernel) rfl⟩, mT_in 125 (by decide +kernel) rfl, mT_in 606 rfl rfl, by decide, ⟨by decide, by decide, by decide +kernel⟩⟩
def MX10_tire : mM := (cX10_tire, yX10_tire, 5, some FieldType.int)
set_option maxRecDepth 100000 in
theorem mv_X10_tire : mMV MX10_tire 2 := ⟨⟨mT_in 608 (by decide +kernel) rfl, mT_in 609 (by decide +kernel) rfl⟩, mT_in 125 (by decide +kernel) rfl, mT_in 610 rfl rfl, by decide, ⟨by decide, by decide, by decide +kernel⟩⟩
def MX10_bring : mM := (cX10_bring, yX10_bring, 5, some FieldType.int)
set_option maxRecDepth 100000 in
theorem mv_X10_bring : mMV MX10_bring 2 := ⟨⟨mT_in 612 (by decide +kernel) rfl, mT_in 613 (by decide +kernel) rfl⟩, mT_in 125 (by decide +kernel) rfl, mT_in 614 rfl rfl, by decide, ⟨by decide, by decide, by decide +kernel⟩⟩
def MX10_ask : mM := (cX10_ask, yX10_ask, 4, some FieldType.int)
set_option maxRecDepth 100000 in
theorem mv_X10_ask : mMV MX10_ask 2 := ⟨⟨mT_in 616 (by decide +kernel) rfl, mT_in 617 (by decide +kernel) rfl⟩, mT_in 125 (by decide +kernel) rfl, mT_in 618 rfl rfl, by decide, ⟨by decide, by decide, by decide +kernel⟩⟩
def MX10_row : mM := (cX10_row, yX10_row, 5, some FieldType.int)
set_option maxRecDepth 100000 in
theorem mv_X10_row : mMV MX10_row 3 := ⟨⟨mT_in 632 (by decide +kernel) rfl, mT_in 633 (by decide +kernel) rfl⟩, mT_in 125 (by decide +kernel) rfl, mT_in 634 rfl rfl, by decide, ⟨by decide, by decide, by decide +kernel⟩⟩
def MX10_feed : mM := (cX10_feed, yX10_feed, 2, some FieldType.int)
set_option maxRecDepth 100000 in
theorem mv_X10_feed : mMV MX10_feed 1 := ⟨⟨mT_in 640 (by decide +kernel) rfl, mT_in 641 (by decide +kernel) rfl⟩, mT_in 125 (by decide +kernel) rfl, mT_in 642 rfl rfl, by decide, ⟨by decide, by decide, by decide +kernel⟩⟩
def MX10_border : mM := (cX10_border, yX10_border, 3, some FieldType.int)
set_option maxRecDepth 100000 in
theorem mv_X10_border : mMV MX10_border 0 := ⟨⟨mT_in 648 (by decide +kernel) rfl, mT_in 649 (by decide +kernel) rfl⟩, mT_in 125 (by decide +kernel) rfl, mT_in 650 rfl rfl, by decide, ⟨by decide, by decide, by decide +kernel⟩⟩
def MX10_told : mM := (cX10_told, yX10_told, 2, some FieldType.int)
set_option maxRecDepth 100000 in
theorem mv_X10_told : mMV MX10_told 1 := ⟨⟨mT_in 771 (by decide +kernel) rfl, mT_in 772 (by decide +kernel) rfl⟩, mT_in 125 (by decide +kernel) rfl, mT_in 773 rfl rfl, by decide, ⟨by decide, by decide, by decide +kernel⟩⟩
def MX10_pass : mM := (cX10_pass, yX10_pass, 2, some FieldType.int)
set_option maxRecDepth 100000 in
theorem mv_X10_pass : mMV MX10_pass 1 := ⟨⟨mT_in 836 (by decide +kernel) rfl, mT_in 837 (by decide +kernel) rfl⟩, mT_in 125 (by decide +kernel) rfl, mT_in 838 rfl rfl, by decide, ⟨by decide, by decide, by decide +kernel⟩⟩
def MX10_on : mM := (cX10_on, yX10_on, 6, some FieldType.int)
set_option maxRecDepth 100000 in
theorem mv_X10_on : mMV MX10_on 2 := ⟨⟨mT_in 854 (by decide +kernel) rfl, mT_in 855 (by decide +kernel) rfl⟩, mT_in 125 (by decide +kernel) rfl, mT_in 856 rfl rfl, by decide, ⟨by decide, by decide, by decide +kernel⟩⟩
def MX10_onTried : mM := (cX10_onTried, yX10_onTried, 5, some FieldType.int)
set_option maxRecDepth 100000 in
theorem mv_X10_onTried : mMV MX10_onTried 1 := ⟨⟨mT_in 879 (by decide +kernel) rfl, mT_in 63 (by decide +kernel) rfl⟩, mT_in 125 (by decide +kernel) rfl, mT_in 880 rfl rfl, by decide, ⟨by decide, by decide, by decide +kernel⟩⟩
def MX10_hear : mM := (cX10_hear, yX10_hear, 4, some FieldType.int)
set_option maxRecDepth 100000 in
theorem mv_X10_hear : mMV MX10_hear 3 := ⟨⟨mT_in 882 (by decide +kernel) rfl, mT_in 883 (by decide +kernel) rfl⟩, mT_in 125 (by decide +kernel) rfl, mT_in 884 rfl rfl, by decide, ⟨by decide, by decide, by decide +kernel⟩⟩
def MX10_can : mM := (cX10_can, yX10_can, 3, some FieldType.int)
set_option maxRecDepth 100000 in
theorem mv_X10_can : mMV MX10_can 2 := ⟨⟨mT_in 894 (by decide +kernel) rfl, mT_in 895 (by decide +kernel) rfl⟩, mT_in 125 (by decide +kernel) rfl, mT_in 896 rfl rfl, by decide, ⟨by decide, by decide, by decide +kernel⟩⟩
def MX10_odds : mM := (cX10_odds, yX10_odds, 6, some FieldType.long)
set_option maxRecDepth 100000 in
theorem mv_X10_odds : mMV MX10_odds 3 := ⟨⟨mT_in 910 (by decide +kernel) rfl, mT_in 911 (by decide +kernel) rfl⟩, mT_in 125 (by decide +kernel) rfl, mT_in 912 rfl rfl, by decide, ⟨by decide, by decide, by decide +kernel⟩⟩
def MX10_mean : mM := (cX10_mean, yX10_mean, 2, some FieldType.long)
set_option maxRecDepth 100000 in
theorem mv_X10_mean : mMV MX10_mean 1 := ⟨⟨mT_in 926 (by decide +kernel) rfl, mT_in 927 (by decide +kernel) rfl⟩, mT_in 125 (by decide +kernel) rfl, mT_in 928 rfl rfl, by decide, ⟨by decide, by decide, by decide +kernel⟩⟩
def MX10_plan : mM := (cX10_plan, yX10_plan, 3, some FieldType.int)
set_option maxRecDepth 100000 in
theorem mv_X10_plan : mMV MX10_plan 2 := ⟨⟨mT_in 936 (by decide +kernel) rfl, mT_in 937 (by decide +kernel) rfl⟩, mT_in 125 (by decide +kernel) rfl, mT_in 938 rfl rfl, by decide, ⟨by decide, by decide, by decide +kernel⟩⟩
def MX10_isPlanned : mM := (cX10_isPlanned, yX10_isPlanned, 3, some FieldType.boolean)
set_option maxRecDepth 100000 in
theorem mv_X10_isPlanned : mMV MX10_isPlanned 2 := ⟨⟨mT_in 941 (by decide +kernel) rfl, mT_in 71 (by decide +kernel) rfl⟩, mT_in 125 (by decide +kernel) rfl, mT_in 942 rfl rfl, by decide, ⟨by decide, by decide, by decide +kernel⟩⟩
def MX10_ends : mM := (cX10_ends, yX10_ends, 3, some FieldType.int)
set_option maxRecDepth 100000 in
theorem mv_X10_ends : mMV MX10_ends 1 := ⟨⟨mT_in 944 (by decide +kernel) rfl, mT_in 945 (by decide +kernel) rfl⟩, mT_in 125 (by decide +kernel) rfl, mT_in 946 rfl rfl, by decide, ⟨by decide, by decide, by decide +kernel⟩⟩
def MX10_book : mM := (cX10_book, yX10_book, 3, some FieldType.int)
set_option maxRecDepth 100000 in
theorem mv_X10_book : mMV MX10_book 2 := ⟨⟨mT_in 954 (by decide +kernel) rfl, mT_in 955 (by decide +kernel) rfl⟩, mT_in 125 (by decide +kernel) rfl, mT_in 956 rfl rfl, by decide, ⟨by decide, by decide, by decide +kernel⟩⟩
def MX10_looked : mM := (cX10_looked, yX10_looked, 3, some FieldType.int)
set_option maxRecDepth 100000 in
theorem mv_X10_looked : mMV MX10_looked 0 := ⟨⟨mT_in 958 (by decide +kernel) rfl, mT_in 959 (by decide +kernel) rfl⟩, mT_in 125 (by decide +kernel) rfl, mT_in 960 rfl rfl, by decide, ⟨by decide, by decide, by decide +kernel⟩⟩
def MX10_judge : mM := (cX10_judge, yX10_judge, 6, some FieldType.int)
set_option maxRecDepth 100000 in
theorem mv_X10_judge : mMV MX10_judge 2 := ⟨⟨mT_in 962 (by decide +kernel) rfl, mT_in 963 (by decide +kernel) rfl⟩, mT_in 125 (by decide +kernel) rfl, mT_in 964 rfl rfl, by decide, ⟨by decide, by decide, by decide +kernel⟩⟩
def MX10_image : mM := (cX10_image, yX10_image, 1, some FieldType.int)
set_option maxRecDepth 100000 in
theorem mv_X10_image : mMV MX10_image 0 := ⟨⟨mT_in 982 (by decide +kernel) rfl, mT_in 983 (by decide +kernel) rfl⟩, mT_in 125 (by decide +kernel) rfl, mT_in 984 rfl rfl, by decide, ⟨by decide, by decide, by decide +kernel⟩⟩
def MX10_undo : mM := (cX10_undo, yX10_undo, 1, some FieldType.int)
set_option maxRecDepth 100000 in
theorem mv_X10_undo : mMV MX10_undo 0 := ⟨⟨mT_in 986 (by decide +kernel) rfl, mT_in 987 (by decide +kernel) rfl⟩, mT_in 125 (by decide +kernel) rfl, mT_in 988 rfl rfl, by decide, ⟨by decide, by decide, by decide +kernel⟩⟩
def MX10_act : mM := (cX10_act, yX10_act, 5, some FieldType.int)
set_option maxRecDepth 100000 in
theorem mv_X10_act : mMV MX10_act 3 := ⟨⟨mT_in 990 (by decide +kernel) rfl, mT_in 991 (by decide +kernel) rfl⟩, mT_in 125 (by decide +kernel) rfl, mT_in 992 rfl rfl, by decide, ⟨by decide, by decide, by decide +kernel⟩⟩
def MX10_trace : mM := (cX10_trace, yX10_trace, 2, some FieldType.int)
set_option maxRecDepth 100000 in
theorem mv_X10_trace : mMV MX10_trace 1 := ⟨⟨mT_in 1024 (by decide +kernel) rfl, mT_in 1025 (by decide +kernel) rfl⟩, mT_in 125 (by decide +kernel) rfl, mT_in 1026 rfl rfl, by decide, ⟨by decide, by decide, by decide +kernel⟩⟩
def MX10_taken : mM := (cX10_taken, yX10_taken, 4, some FieldType.int)
set_option maxRecDepth 100000 in
theorem mv_X10_taken : mMV MX10_taken 2 := ⟨⟨mT_in 1032 (by decide +kernel) rfl, mT_in 1033 (by decide +kernel) rfl⟩, mT_in 125 (by decide +kernel) rfl, mT_in 1034 rfl rfl, by decide, ⟨by decide, by decide, by decide +kernel⟩⟩
def MX10_count : mM := (cX10_count, yX10_count, 2, some FieldType.int)
set_option maxRecDepth 100000 in
theorem mv_X10_count : mMV MX10_count 1 := ⟨⟨mT_in 1039 (by decide +kernel) rfl, mT_in 1040 (by decide +kernel) rfl⟩, mT_in 125 (by decide +kernel) rfl, mT_in 1041 rfl rfl, by decide, ⟨by decide, by decide, by decide +kernel⟩⟩
def MX10_tape : mM := (cX10_tape, yX10_tape, 5, some FieldType.int)
set_option maxRecDepth 100000 in
theorem mv_X10_tape : mMV MX10_tape 3 := ⟨⟨mT_in 1043 (by decide +kernel) rfl, mT_in 1044 (by decide +kernel) rfl⟩, mT_in 125 (by decide +kernel) rfl, mT_in 1045 rfl rfl, by decide, ⟨by decide, by decide, by decide +kernel⟩⟩
def MX10_item : mM := (cX10_item, yX10_item, 6, some FieldType.int)
set_option maxRecDepth 100000 in
theorem mv_X10_item : mMV MX10_item 3 := ⟨⟨mT_in 1056 (by decide +kernel) rfl, mT_in 1057 (by decide +kernel) rfl⟩, mT_in 125 (by decide +kernel) rfl, mT_in 1058 rfl rfl, by decide, ⟨by decide, by decide, by decide +kernel⟩⟩
def MX10_read : mM := (cX10_read, yX10_read, 4, some FieldType.long)
set_option maxRecDepth 100000 in
theorem mv_X10_read : mMV MX10_read 2 := ⟨⟨mT_in 1069 (by decide +kernel) rfl, mT_in 1070 (by decide +kernel) rfl⟩, mT_in 125 (by decide +kernel) rfl, mT_in 1071 rfl rfl, by decide, ⟨by decide, by decide, by decide +kernel⟩⟩
def MX10_shift : mM := (cX10_shift, yX10_shift, 8, some FieldType.int)
set_option maxRecDepth 100000 in
theorem mv_X10_shift : mMV MX10_shift 5 := ⟨⟨mT_in 1073 (by decide +kernel) rfl, mT_in 1074 (by decide +kernel) rfl⟩, mT_in 125 (by decide +kernel) rfl, mT_in 1075 rfl rfl, by decide, ⟨by decide, by decide, by decide +kernel⟩⟩
def MX10_tapeAt : mM := (cX10_tapeAt, yX10_tapeAt, 2, some ((FieldType.object "BorderQuestions$Tape")))
set_option maxRecDepth 100000 in
theorem mv_X10_tapeAt : mMV MX10_tapeAt 1 := ⟨⟨mT_in 967 (by decide +kernel) rfl, mT_in 73 (by decide +kernel) rfl⟩, mT_in 125 (by decide +kernel) rfl, mT_in 968 rfl rfl, by decide, ⟨by decide, by decide, by decide +kernel⟩⟩
def MX10_isKind : mM := (cX10_isKind, yX10_isKind, 1, some FieldType.boolean)
set_option maxRecDepth 100000 in
theorem ms_X10_isKind : mMS MX10_isKind 1 := ⟨mT_in 469 (by decide +kernel) rfl, mT_in 125 (by decide +kernel) rfl, mT_in 470 rfl rfl, by decide, ⟨by decide, by decide, by decide +kernel⟩⟩
def MX10_isDigit : mM := (cX10_isDigit, yX10_isDigit, 1, some FieldType.boolean)
set_option maxRecDepth 100000 in
theorem ms_X10_isDigit : mMS MX10_isDigit 1 := ⟨mT_in 472 (by decide +kernel) rfl, mT_in 125 (by decide +kernel) rfl, mT_in 473 rfl rfl, by decide, ⟨by decide, by decide, by decide +kernel⟩⟩
def MX10_isUpTo99 : mM := (cX10_isUpTo99, yX10_isUpTo99, 1, some FieldType.boolean)
set_option maxRecDepth 100000 in
theorem ms_X10_isUpTo99 : mMS MX10_isUpTo99 1 := ⟨mT_in 589 (by decide +kernel) rfl, mT_in 125 (by decide +kernel) rfl, mT_in 590 rfl rfl, by decide, ⟨by decide, by decide, by decide +kernel⟩⟩
def MX10_isSet : mM := (cX10_isSet, yX10_isSet, 1, some FieldType.boolean)
set_option maxRecDepth 100000 in
theorem ms_X10_isSet : mMS MX10_isSet 1 := ⟨mT_in 475 (by decide +kernel) rfl, mT_in 125 (by decide +kernel) rfl, mT_in 476 rfl rfl, by decide, ⟨by decide, by decide, by decide +kernel⟩⟩
def MX10_isHours : mM := (cX10_isHours, yX10_isHours, 1, some FieldType.boolean)
set_option maxRecDepth 100000 in
theorem ms_X10_isHours : mMS MX10_isHours 1 := ⟨mT_in 840 (by decide +kernel) rfl, mT_in 125 (by decide +kernel) rfl, mT_in 841 rfl rfl, by decide, ⟨by decide, by decide, by decide +kernel⟩⟩
def MX10_isPart : mM := (cX10_isPart, yX10_isPart, 1, some FieldType.boolean)
set_option maxRecDepth 100000 in
theorem ms_X10_isPart : mMS MX10_isPart 1 := ⟨mT_in 914 (by decide +kernel) rfl, mT_in 125 (by decide +kernel) rfl, mT_in 915 rfl rfl, by decide, ⟨by decide, by decide, by decide +kernel⟩⟩
def MX10_lowest : mM := (cX10_lowest, yX10_lowest, 7, some FieldType.long)
set_option maxRecDepth 100000 in
theorem ms_X10_lowest : mMS MX10_lowest 3 := ⟨mT_in 922 (by decide +kernel) rfl, mT_in 125 (by decide +kernel) rfl, mT_in 923 rfl rfl, by decide, ⟨by decide, by decide, by decide +kernel⟩⟩
def MX11_init : mM := (cX11_init, yX11_init, 2, none)
set_option maxRecDepth 100000 in
theorem mi_X11_init : mMI MX11_init 0 := ⟨⟨rfl, mT_in 1084 (by decide +kernel) rfl, rfl⟩, mT_in 137 (by decide +kernel) rfl, mT_in 1085 rfl rfl, by decide, ⟨by decide, by decide, by decide +kernel⟩⟩
def MX11_within : mM := (cX11_within, yX11_within, 3, some FieldType.boolean)
set_option maxRecDepth 100000 in
theorem ms_X11_within : mMS MX11_within 3 := ⟨mT_in 1241 (by decide +kernel) rfl, mT_in 137 (by decide +kernel) rfl, mT_in 1242 rfl rfl, by decide, ⟨by decide, by decide, by decide +kernel⟩⟩
def MX11_isOne : mM := (cX11_isOne, yX11_isOne, 2, some FieldType.boolean)
set_option maxRecDepth 100000 in
theorem mv_X11_isOne : mMV MX11_isOne 1 := ⟨⟨mT_in 1252 (by decide +kernel) rfl, mT_in 87 (by decide +kernel) rfl⟩, mT_in 137 (by decide +kernel) rfl, mT_in 1253 rfl rfl, by decide, ⟨by decide, by decide, by decide +kernel⟩⟩
def MX11_isAsked : mM := (cX11_isAsked, yX11_isAsked, 2, some FieldType.boolean)
set_option maxRecDepth 100000 in
theorem mv_X11_isAsked : mMV MX11_isAsked 1 := ⟨⟨mT_in 1256 (by decide +kernel) rfl, mT_in 88 (by decide +kernel) rfl⟩, mT_in 137 (by decide +kernel) rfl, mT_in 1257 rfl rfl, by decide, ⟨by decide, by decide, by decide +kernel⟩⟩
def MX11_areMatters : mM := (cX11_areMatters, yX11_areMatters, 1, some FieldType.boolean)
set_option maxRecDepth 100000 in
theorem ms_X11_areMatters : mMS MX11_areMatters 1 := ⟨mT_in 1244 (by decide +kernel) rfl, mT_in 137 (by decide +kernel) rfl, mT_in 1245 rfl rfl, by decide, ⟨by decide, by decide, by decide +kernel⟩⟩
def MX11_guard : mM := (cX11_guard, yX11_guard, 5, some FieldType.int)
set_option maxRecDepth 100000 in
theorem mv_X11_guard : mMV MX11_guard 3 := ⟨⟨mT_in 1237 (by decide +kernel) rfl, mT_in 1238 (by decide +kernel) rfl⟩, mT_in 137 (by decide +kernel) rfl, mT_in 1239 rfl rfl, by decide, ⟨by decide, by decide, by decide +kernel⟩⟩
def MX11_of : mM := (cX11_of, yX11_of, 3, some FieldType.int)
set_option maxRecDepth 100000 in
theorem mv_X11_of : mMV MX11_of 2 := ⟨⟨mT_in 1247 (by decide +kernel) rfl, mT_in 1248 (by decide +kernel) rfl⟩, mT_in 137 (by decide +kernel) rfl, mT_in 1249 rfl rfl, by decide, ⟨by decide, by decide, by decide +kernel⟩⟩
def MX11_question : mM := (cX11_question, yX11_question, 3, some FieldType.int)
set_option maxRecDepth 100000 in
theorem mv_X11_question : mMV MX11_question 2 := ⟨⟨mT_in 1296 (by decide +kernel) rfl, mT_in 1297 (by decide +kernel) rfl⟩, mT_in 137 (by decide +kernel) rfl, mT_in 1298 rfl rfl, by decide, ⟨by decide, by decide, by decide +kernel⟩⟩
def MX11_sack : mM := (cX11_sack, yX11_sack, 3, some FieldType.int)
set_option maxRecDepth 100000 in
theorem mv_X11_sack : mMV MX11_sack 2 := ⟨⟨mT_in 1300 (by decide +kernel) rfl, mT_in 1301 (by decide +kernel) rfl⟩, mT_in 137 (by decide +kernel) rfl, mT_in 1302 rfl rfl, by decide, ⟨by decide, by decide, by decide +kernel⟩⟩
def MX11_know : mM := (cX11_know, yX11_know, 4, some FieldType.int)
set_option maxRecDepth 100000 in
theorem mv_X11_know : mMV MX11_know 2 := ⟨⟨mT_in 1304 (by decide +kernel) rfl, mT_in 1305 (by decide +kernel) rfl⟩, mT_in 137 (by decide +kernel) rfl, mT_in 1306 rfl rfl, by decide, ⟨by decide, by decide, by decide +kernel⟩⟩
def MX11_tire : mM := (cX11_tire, yX11_tire, 4, some FieldType.int)
set_option maxRecDepth 100000 in
theorem mv_X11_tire : mMV MX11_tire 2 := ⟨⟨mT_in 1308 (by decide +kernel) rfl, mT_in 1309 (by decide +kernel) rfl⟩, mT_in 137 (by decide +kernel) rfl, mT_in 1310 rfl rfl, by decide, ⟨by decide, by decide, by decide +kernel⟩⟩
def MX11_bring : mM := (cX11_bring, yX11_bring, 4, some FieldType.int)
set_option maxRecDepth 100000 in
theorem mv_X11_bring : mMV MX11_bring 2 := ⟨⟨mT_in 1312 (by decide +kernel) rfl, mT_in 1313 (by decide +kernel) rfl⟩, mT_in 137 (by decide +kernel) rfl, mT_in 1314 rfl rfl, by decide, ⟨by decide, by decide, by decide +kernel⟩⟩
def MX11_ask : mM := (cX11_ask, yX11_ask, 3, some FieldType.int)
set_option maxRecDepth 100000 in
theorem mv_X11_ask : mMV MX11_ask 2 := ⟨⟨mT_in 1316 (by decide +kernel) rfl, mT_in 1317 (by decide +kernel) rfl⟩, mT_in 137 (by decide +kernel) rfl, mT_in 1318 rfl rfl, by decide, ⟨by decide, by decide, by decide +kernel⟩⟩
def MX11_row : mM := (cX11_row, yX11_row, 5, some FieldType.int)
set_option maxRecDepth 100000 in
theorem mv_X11_row : mMV MX11_row 3 := ⟨⟨mT_in 1329 (by decide +kernel) rfl, mT_in 1330 (by decide +kernel) rfl⟩, mT_in 137 (by decide +kernel) rfl, mT_in 1331 rfl rfl, by decide, ⟨by decide, by decide, by decide +kernel⟩⟩
def MX11_feed : mM := (cX11_feed, yX11_feed, 2, some FieldType.int)
set_option maxRecDepth 100000 in
theorem mv_X11_feed : mMV MX11_feed 1 := ⟨⟨mT_in 1333 (by decide +kernel) rfl, mT_in 1334 (by decide +kernel) rfl⟩, mT_in 137 (by decide +kernel) rfl, mT_in 1335 rfl rfl, by decide, ⟨by decide, by decide, by decide +kernel⟩⟩
def MX11_is : mM := (cX11_is, yX11_is, 2, some FieldType.boolean)
set_option maxRecDepth 100000 in
theorem mv_X11_is : mMV MX11_is 1 := ⟨⟨mT_in 1353 (by decide +kernel) rfl, mT_in 101 (by decide +kernel) rfl⟩, mT_in 137 (by decide +kernel) rfl, mT_in 1354 rfl rfl, by decide, ⟨by decide, by decide, by decide +kernel⟩⟩
def MX11_isDigit : mM := (cX11_isDigit, yX11_isDigit, 1, some FieldType.boolean)
set_option maxRecDepth 100000 in
theorem mv_X11_isDigit : mMV MX11_isDigit 0 := ⟨⟨mT_in 1363 (by decide +kernel) rfl, mT_in 103 (by decide +kernel) rfl⟩, mT_in 137 (by decide +kernel) rfl, mT_in 1364 rfl rfl, by decide, ⟨by decide, by decide, by decide +kernel⟩⟩
def MX11_isNumber : mM := (cX11_isNumber, yX11_isNumber, 1, some FieldType.boolean)
set_option maxRecDepth 100000 in
theorem mv_X11_isNumber : mMV MX11_isNumber 0 := ⟨⟨mT_in 1359 (by decide +kernel) rfl, mT_in 102 (by decide +kernel) rfl⟩, mT_in 137 (by decide +kernel) rfl, mT_in 1360 rfl rfl, by decide, ⟨by decide, by decide, by decide +kernel⟩⟩
def MX11_isAll : mM := (cX11_isAll, yX11_isAll, 3, some FieldType.boolean)
set_option maxRecDepth 100000 in
theorem mv_X11_isAll : mMV MX11_isAll 1 := ⟨⟨mT_in 1347 (by decide +kernel) rfl, mT_in 100 (by decide +kernel) rfl⟩, mT_in 137 (by decide +kernel) rfl, mT_in 1348 rfl rfl, by decide, ⟨by decide, by decide, by decide +kernel⟩⟩
def MX11_codes : mM := (cX11_codes, yX11_codes, 2, some FieldType.boolean)
set_option maxRecDepth 100000 in
theorem mv_X11_codes : mMV MX11_codes 1 := ⟨⟨mT_in 1383 (by decide +kernel) rfl, mT_in 108 (by decide +kernel) rfl⟩, mT_in 137 (by decide +kernel) rfl, mT_in 1384 rfl rfl, by decide, ⟨by decide, by decide, by decide +kernel⟩⟩
def MX11_isTest : mM := (cX11_isTest, yX11_isTest, 3, some FieldType.boolean)
set_option maxRecDepth 100000 in
theorem mv_X11_isTest : mMV MX11_isTest 0 := ⟨⟨mT_in 1387 (by decide +kernel) rfl, mT_in 109 (by decide +kernel) rfl⟩, mT_in 137 (by decide +kernel) rfl, mT_in 1388 rfl rfl, by decide, ⟨by decide, by decide, by decide +kernel⟩⟩
def MX11_isOpened : mM := (cX11_isOpened, yX11_isOpened, 2, some FieldType.boolean)
set_option maxRecDepth 100000 in
theorem mv_X11_isOpened : mMV MX11_isOpened 1 := ⟨⟨mT_in 1379 (by decide +kernel) rfl, mT_in 107 (by decide +kernel) rfl⟩, mT_in 137 (by decide +kernel) rfl, mT_in 1380 rfl rfl, by decide, ⟨by decide, by decide, by decide +kernel⟩⟩
def MX11_isF : mM := (cX11_isF, yX11_isF, 2, some FieldType.boolean)
set_option maxRecDepth 100000 in
theorem mv_X11_isF : mMV MX11_isF 0 := ⟨⟨mT_in 1375 (by decide +kernel) rfl, mT_in 106 (by decide +kernel) rfl⟩, mT_in 137 (by decide +kernel) rfl, mT_in 1376 rfl rfl, by decide, ⟨by decide, by decide, by decide +kernel⟩⟩
def MX11_isT : mM := (cX11_isT, yX11_isT, 1, some FieldType.boolean)
set_option maxRecDepth 100000 in
theorem mv_X11_isT : mMV MX11_isT 0 := ⟨⟨mT_in 1371 (by decide +kernel) rfl, mT_in 105 (by decide +kernel) rfl⟩, mT_in 137 (by decide +kernel) rfl, mT_in 1372 rfl rfl, by decide, ⟨by decide, by decide, by decide +kernel⟩⟩
def MX11_isE : mM := (cX11_isE, yX11_isE, 1, some FieldType.boolean)
set_option maxRecDepth 100000 in
theorem mv_X11_isE : mMV MX11_isE 0 := ⟨⟨mT_in 1367 (by decide +kernel) rfl, mT_in 104 (by decide +kernel) rfl⟩, mT_in 137 (by decide +kernel) rfl, mT_in 1368 rfl rfl, by decide, ⟨by decide, by decide, by decide +kernel⟩⟩
def MX11_isClause : mM := (cX11_isClause, yX11_isClause, 4, some FieldType.boolean)
set_option maxRecDepth 100000 in
theorem mv_X11_isClause : mMV MX11_isClause 1 := ⟨⟨mT_in 1342 (by decide +kernel) rfl, mT_in 99 (by decide +kernel) rfl⟩, mT_in 137 (by decide +kernel) rfl, mT_in 1343 rfl rfl, by decide, ⟨by decide, by decide, by decide +kernel⟩⟩
def MX11_border : mM := (cX11_border, yX11_border, 5, some FieldType.int)
set_option maxRecDepth 100000 in
theorem mv_X11_border : mMV MX11_border 0 := ⟨⟨mT_in 1337 (by decide +kernel) rfl, mT_in 1338 (by decide +kernel) rfl⟩, mT_in 137 (by decide +kernel) rfl, mT_in 1339 rfl rfl, by decide, ⟨by decide, by decide, by decide +kernel⟩⟩
def MX11_letterOf : mM := (cX11_letterOf, yX11_letterOf, 4, some FieldType.int)
set_option maxRecDepth 100000 in
theorem mv_X11_letterOf : mMV MX11_letterOf 3 := ⟨⟨mT_in 1273 (by decide +kernel) rfl, mT_in 92 (by decide +kernel) rfl⟩, mT_in 137 (by decide +kernel) rfl, mT_in 1274 rfl rfl, by decide, ⟨by decide, by decide, by decide +kernel⟩⟩
def MX11_isTrue : mM := (cX11_isTrue, yX11_isTrue, 10, some FieldType.boolean)
set_option maxRecDepth 100000 in
theorem mv_X11_isTrue : mMV MX11_isTrue 3 := ⟨⟨mT_in 1269 (by decide +kernel) rfl, mT_in 91 (by decide +kernel) rfl⟩, mT_in 137 (by decide +kernel) rfl, mT_in 1270 rfl rfl, by decide, ⟨by decide, by decide, by decide +kernel⟩⟩
def MX11_sum : mM := (cX11_sum, yX11_sum, 6, some FieldType.int)
set_option maxRecDepth 100000 in
theorem mv_X11_sum : mMV MX11_sum 2 := ⟨⟨mT_in 1264 (by decide +kernel) rfl, mT_in 90 (by decide +kernel) rfl⟩, mT_in 137 (by decide +kernel) rfl, mT_in 1265 rfl rfl, by decide, ⟨by decide, by decide, by decide +kernel⟩⟩
def MX11_restBy : mM := (cX11_restBy, yX11_restBy, 3, some FieldType.int)
set_option maxRecDepth 100000 in
theorem mv_X11_restBy : mMV MX11_restBy 0 := ⟨⟨mT_in 1464 (by decide +kernel) rfl, mT_in 113 (by decide +kernel) rfl⟩, mT_in 137 (by decide +kernel) rfl, mT_in 1465 rfl rfl, by decide, ⟨by decide, by decide, by decide +kernel⟩⟩
def MX11_wit : mM := (cX11_wit, yX11_wit, 7, some FieldType.int)
set_option maxRecDepth 100000 in
theorem mv_X11_wit : mMV MX11_wit 2 := ⟨⟨mT_in 1260 (by decide +kernel) rfl, mT_in 89 (by decide +kernel) rfl⟩, mT_in 137 (by decide +kernel) rfl, mT_in 1261 rfl rfl, by decide, ⟨by decide, by decide, by decide +kernel⟩⟩
def MX11_answers : mM := (cX11_answers, yX11_answers, 3, some FieldType.boolean)
set_option maxRecDepth 100000 in
theorem mv_X11_answers : mMV MX11_answers 2 := ⟨⟨mT_in 1281 (by decide +kernel) rfl, mT_in 94 (by decide +kernel) rfl⟩, mT_in 137 (by decide +kernel) rfl, mT_in 1282 rfl rfl, by decide, ⟨by decide, by decide, by decide +kernel⟩⟩
def MX11_asks : mM := (cX11_asks, yX11_asks, 4, none)
set_option maxRecDepth 100000 in
theorem mv_X11_asks : mMV MX11_asks 2 := ⟨⟨mT_in 1321 (by decide +kernel) rfl, mT_in 98 (by decide +kernel) rfl⟩, mT_in 137 (by decide +kernel) rfl, mT_in 1322 rfl rfl, by decide, ⟨by decide, by decide, by decide +kernel⟩⟩
def MX11_goesHour : mM := (cX11_goesHour, yX11_goesHour, 3, none)
set_option maxRecDepth 100000 in
theorem mv_X11_goesHour : mMV MX11_goesHour 0 := ⟨⟨mT_in 1484 (by decide +kernel) rfl, mT_in 117 (by decide +kernel) rfl⟩, mT_in 137 (by decide +kernel) rfl, mT_in 1485 rfl rfl, by decide, ⟨by decide, by decide, by decide +kernel⟩⟩
def MX11_through : mM := (cX11_through, yX11_through, 3, some FieldType.int)
set_option maxRecDepth 100000 in
theorem mv_X11_through : mMV MX11_through 0 := ⟨⟨mT_in 1468 (by decide +kernel) rfl, mT_in 114 (by decide +kernel) rfl⟩, mT_in 137 (by decide +kernel) rfl, mT_in 1469 rfl rfl, by decide, ⟨by decide, by decide, by decide +kernel⟩⟩
def MX11_areSo : mM := (cX11_areSo, yX11_areSo, 4, some FieldType.int)
set_option maxRecDepth 100000 in
theorem mv_X11_areSo : mMV MX11_areSo 1 := ⟨⟨mT_in 1472 (by decide +kernel) rfl, mT_in 115 (by decide +kernel) rfl⟩, mT_in 137 (by decide +kernel) rfl, mT_in 1473 rfl rfl, by decide, ⟨by decide, by decide, by decide +kernel⟩⟩
def MX11_told : mM := (cX11_told, yX11_told, 2, some FieldType.int)
set_option maxRecDepth 100000 in
theorem mv_X11_told : mMV MX11_told 1 := ⟨⟨mT_in 1447 (by decide +kernel) rfl, mT_in 1448 (by decide +kernel) rfl⟩, mT_in 137 (by decide +kernel) rfl, mT_in 1449 rfl rfl, by decide, ⟨by decide, by decide, by decide +kernel⟩⟩
def MX11_pass : mM := (cX11_pass, yX11_pass, 3, some FieldType.int)
set_option maxRecDepth 100000 in
theorem mv_X11_pass : mMV MX11_pass 1 := ⟨⟨mT_in 1479 (by decide +kernel) rfl, mT_in 1480 (by decide +kernel) rfl⟩, mT_in 137 (by decide +kernel) rfl, mT_in 1481 rfl rfl, by decide, ⟨by decide, by decide, by decide +kernel⟩⟩
def MX11_on : mM := (cX11_on, yX11_on, 4, some FieldType.int)
set_option maxRecDepth 100000 in
theorem mv_X11_on : mMV MX11_on 2 := ⟨⟨mT_in 1488 (by decide +kernel) rfl, mT_in 1489 (by decide +kernel) rfl⟩, mT_in 137 (by decide +kernel) rfl, mT_in 1490 rfl rfl, by decide, ⟨by decide, by decide, by decide +kernel⟩⟩
def MX11_tries : mM := (cX11_tries, yX11_tries, 5, none)
set_option maxRecDepth 100000 in
theorem mv_X11_tries : mMV MX11_tries 3 := ⟨⟨mT_in 1460 (by decide +kernel) rfl, mT_in 112 (by decide +kernel) rfl⟩, mT_in 137 (by decide +kernel) rfl, mT_in 1461 rfl rfl, by decide, ⟨by decide, by decide, by decide +kernel⟩⟩
def MX11_loads : mM := (cX11_loads, yX11_loads, 1, none)
set_option maxRecDepth 100000 in
theorem mv_X11_loads : mMV MX11_loads 0 := ⟨⟨mT_in 1456 (by decide +kernel) rfl, mT_in 111 (by decide +kernel) rfl⟩, mT_in 137 (by decide +kernel) rfl, mT_in 1457 rfl rfl, by decide, ⟨by decide, by decide, by decide +kernel⟩⟩
def MX11_loaded : mM := (cX11_loaded, yX11_loaded, 2, some FieldType.int)
set_option maxRecDepth 100000 in
theorem mv_X11_loaded : mMV MX11_loaded 1 := ⟨⟨mT_in 1452 (by decide +kernel) rfl, mT_in 110 (by decide +kernel) rfl⟩, mT_in 137 (by decide +kernel) rfl, mT_in 1453 rfl rfl, by decide, ⟨by decide, by decide, by decide +kernel⟩⟩
def MX11_enough : mM := (cX11_enough, yX11_enough, 7, some FieldType.int)
set_option maxRecDepth 100000 in
theorem mv_X11_enough : mMV MX11_enough 0 := ⟨⟨mT_in 1476 (by decide +kernel) rfl, mT_in 116 (by decide +kernel) rfl⟩, mT_in 137 (by decide +kernel) rfl, mT_in 1477 rfl rfl, by decide, ⟨by decide, by decide, by decide +kernel⟩⟩
def MX11_study : mM := (cX11_study, yX11_study, 6, some FieldType.int)
set_option maxRecDepth 100000 in
theorem mv_X11_study : mMV MX11_study 2 := ⟨⟨mT_in 1277 (by decide +kernel) rfl, mT_in 93 (by decide +kernel) rfl⟩, mT_in 137 (by decide +kernel) rfl, mT_in 1278 rfl rfl, by decide, ⟨by decide, by decide, by decide +kernel⟩⟩
def MX11_stumps : mM := (cX11_stumps, yX11_stumps, 4, some FieldType.int)
set_option maxRecDepth 100000 in
theorem mv_X11_stumps : mMV MX11_stumps 1 := ⟨⟨mT_in 1285 (by decide +kernel) rfl, mT_in 95 (by decide +kernel) rfl⟩, mT_in 137 (by decide +kernel) rfl, mT_in 1286 rfl rfl, by decide, ⟨by decide, by decide, by decide +kernel⟩⟩
def MX11_hear : mM := (cX11_hear, yX11_hear, 4, some FieldType.int)
set_option maxRecDepth 100000 in
theorem mv_X11_hear : mMV MX11_hear 3 := ⟨⟨mT_in 1500 (by decide +kernel) rfl, mT_in 1501 (by decide +kernel) rfl⟩, mT_in 137 (by decide +kernel) rfl, mT_in 1502 rfl rfl, by decide, ⟨by decide, by decide, by decide +kernel⟩⟩
def MX11_isHeard : mM := (cX11_isHeard, yX11_isHeard, 3, some FieldType.boolean)
set_option maxRecDepth 100000 in
theorem mv_X11_isHeard : mMV MX11_isHeard 1 := ⟨⟨mT_in 1293 (by decide +kernel) rfl, mT_in 97 (by decide +kernel) rfl⟩, mT_in 137 (by decide +kernel) rfl, mT_in 1294 rfl rfl, by decide, ⟨by decide, by decide, by decide +kernel⟩⟩
def MX11_knew : mM := (cX11_knew, yX11_knew, 7, some FieldType.int)
set_option maxRecDepth 100000 in
theorem mv_X11_knew : mMV MX11_knew 2 := ⟨⟨mT_in 1289 (by decide +kernel) rfl, mT_in 96 (by decide +kernel) rfl⟩, mT_in 137 (by decide +kernel) rfl, mT_in 1290 rfl rfl, by decide, ⟨by decide, by decide, by decide +kernel⟩⟩
def MX11_can : mM := (cX11_can, yX11_can, 7, some FieldType.int)
set_option maxRecDepth 100000 in
theorem mv_X11_can : mMV MX11_can 2 := ⟨⟨mT_in 1504 (by decide +kernel) rfl, mT_in 1505 (by decide +kernel) rfl⟩, mT_in 137 (by decide +kernel) rfl, mT_in 1506 rfl rfl, by decide, ⟨by decide, by decide, by decide +kernel⟩⟩
def MX11_part : mM := (cX11_part, yX11_part, 11, some FieldType.long)
set_option maxRecDepth 100000 in
theorem ms_X11_part : mMS MX11_part 3 := ⟨mT_in 1514 (by decide +kernel) rfl, mT_in 137 (by decide +kernel) rfl, mT_in 1515 rfl rfl, by decide, ⟨by decide, by decide, by decide +kernel⟩⟩
def MX11_odds : mM := (cX11_odds, yX11_odds, 6, some FieldType.long)
set_option maxRecDepth 100000 in
theorem mv_X11_odds : mMV MX11_odds 3 := ⟨⟨mT_in 1508 (by decide +kernel) rfl, mT_in 1509 (by decide +kernel) rfl⟩, mT_in 137 (by decide +kernel) rfl, mT_in 1510 rfl rfl, by decide, ⟨by decide, by decide, by decide +kernel⟩⟩
def MX11_mean : mM := (cX11_mean, yX11_mean, 4, some FieldType.long)
set_option maxRecDepth 100000 in
theorem mv_X11_mean : mMV MX11_mean 1 := ⟨⟨mT_in 1517 (by decide +kernel) rfl, mT_in 1518 (by decide +kernel) rfl⟩, mT_in 137 (by decide +kernel) rfl, mT_in 1519 rfl rfl, by decide, ⟨by decide, by decide, by decide +kernel⟩⟩
def MX11_plan : mM := (cX11_plan, yX11_plan, 3, some FieldType.int)
set_option maxRecDepth 100000 in
theorem mv_X11_plan : mMV MX11_plan 2 := ⟨⟨mT_in 1521 (by decide +kernel) rfl, mT_in 1522 (by decide +kernel) rfl⟩, mT_in 137 (by decide +kernel) rfl, mT_in 1523 rfl rfl, by decide, ⟨by decide, by decide, by decide +kernel⟩⟩
def MX11_ends : mM := (cX11_ends, yX11_ends, 4, some FieldType.int)
set_option maxRecDepth 100000 in
theorem mv_X11_ends : mMV MX11_ends 1 := ⟨⟨mT_in 1525 (by decide +kernel) rfl, mT_in 1526 (by decide +kernel) rfl⟩, mT_in 137 (by decide +kernel) rfl, mT_in 1527 rfl rfl, by decide, ⟨by decide, by decide, by decide +kernel⟩⟩
def MX11_book : mM := (cX11_book, yX11_book, 3, some FieldType.int)
set_option maxRecDepth 100000 in
theorem mv_X11_book : mMV MX11_book 2 := ⟨⟨mT_in 1529 (by decide +kernel) rfl, mT_in 1530 (by decide +kernel) rfl⟩, mT_in 137 (by decide +kernel) rfl, mT_in 1531 rfl rfl, by decide, ⟨by decide, by decide, by decide +kernel⟩⟩
def MX11_looked : mM := (cX11_looked, yX11_looked, 2, some FieldType.int)
set_option maxRecDepth 100000 in
theorem mv_X11_looked : mMV MX11_looked 0 := ⟨⟨mT_in 1533 (by decide +kernel) rfl, mT_in 1534 (by decide +kernel) rfl⟩, mT_in 137 (by decide +kernel) rfl, mT_in 1535 rfl rfl, by decide, ⟨by decide, by decide, by decide +kernel⟩⟩
def MX11_judge : mM := (cX11_judge, yX11_judge, 4, some FieldType.int)
set_option maxRecDepth 100000 in
theorem mv_X11_judge : mMV MX11_judge 2 := ⟨⟨mT_in 1537 (by decide +kernel) rfl, mT_in 1538 (by decide +kernel) rfl⟩, mT_in 137 (by decide +kernel) rfl, mT_in 1539 rfl rfl, by decide, ⟨by decide, by decide, by decide +kernel⟩⟩
def MX11_keep : mM := (cX11_keep, yX11_keep, 3, none)
set_option maxRecDepth 100000 in
theorem mv_X11_keep : mMV MX11_keep 1 := ⟨⟨mT_in 1493 (by decide +kernel) rfl, mT_in 118 (by decide +kernel) rfl⟩, mT_in 137 (by decide +kernel) rfl, mT_in 1494 rfl rfl, by decide, ⟨by decide, by decide, by decide +kernel⟩⟩
def MX11_again : mM := (cX11_again, yX11_again, 3, none)
set_option maxRecDepth 100000 in
theorem mv_X11_again : mMV MX11_again 1 := ⟨⟨mT_in 1497 (by decide +kernel) rfl, mT_in 119 (by decide +kernel) rfl⟩, mT_in 137 (by decide +kernel) rfl, mT_in 1498 rfl rfl, by decide, ⟨by decide, by decide, by decide +kernel⟩⟩
def MX11_image : mM := (cX11_image, yX11_image, 1, some FieldType.int)
set_option maxRecDepth 100000 in
theorem mv_X11_image : mMV MX11_image 0 := ⟨⟨mT_in 1541 (by decide +kernel) rfl, mT_in 1542 (by decide +kernel) rfl⟩, mT_in 137 (by decide +kernel) rfl, mT_in 1543 rfl rfl, by decide, ⟨by decide, by decide, by decide +kernel⟩⟩
def MX11_undo : mM := (cX11_undo, yX11_undo, 1, some FieldType.int)
set_option maxRecDepth 100000 in
theorem mv_X11_undo : mMV MX11_undo 0 := ⟨⟨mT_in 1545 (by decide +kernel) rfl, mT_in 1546 (by decide +kernel) rfl⟩, mT_in 137 (by decide +kernel) rfl, mT_in 1547 rfl rfl, by decide, ⟨by decide, by decide, by decide +kernel⟩⟩
def MX11_ran : mM := (cX11_ran, yX11_ran, 2, none)
set_option maxRecDepth 100000 in
theorem mv_X11_ran : mMV MX11_ran 1 := ⟨⟨mT_in 1558 (by decide +kernel) rfl, mT_in 121 (by decide +kernel) rfl⟩, mT_in 137 (by decide +kernel) rfl, mT_in 1559 rfl rfl, by decide, ⟨by decide, by decide, by decide +kernel⟩⟩
def MX11_above : mM := (cX11_above, yX11_above, 1, some FieldType.int)
set_option maxRecDepth 100000 in
theorem ms_X11_above : mMS MX11_above 1 := ⟨mT_in 1561 (by decide +kernel) rfl, mT_in 137 (by decide +kernel) rfl, mT_in 1562 rfl rfl, by decide, ⟨by decide, by decide, by decide +kernel⟩⟩
def MX11_listens : mM := (cX11_listens, yX11_listens, 4, some FieldType.int)
set_option maxRecDepth 100000 in
theorem mv_X11_listens : mMV MX11_listens 3 := ⟨⟨mT_in 1554 (by decide +kernel) rfl, mT_in 120 (by decide +kernel) rfl⟩, mT_in 137 (by decide +kernel) rfl, mT_in 1555 rfl rfl, by decide, ⟨by decide, by decide, by decide +kernel⟩⟩
def MX11_nods : mM := (cX11_nods, yX11_nods, 5, some FieldType.int)
set_option maxRecDepth 100000 in
theorem mv_X11_nods : mMV MX11_nods 3 := ⟨⟨mT_in 1565 (by decide +kernel) rfl, mT_in 122 (by decide +kernel) rfl⟩, mT_in 137 (by decide +kernel) rfl, mT_in 1566 rfl rfl, by decide, ⟨by decide, by decide, by decide +kernel⟩⟩
def MX11_tells : mM := (cX11_tells, yX11_tells, 5, some FieldType.int)
set_option maxRecDepth 100000 in
theorem mv_X11_tells : mMV MX11_tells 3 := ⟨⟨mT_in 1569 (by decide +kernel) rfl, mT_in 123 (by decide +kernel) rfl⟩, mT_in 137 (by decide +kernel) rfl, mT_in 1570 rfl rfl, by decide, ⟨by decide, by decide, by decide +kernel⟩⟩
def MX11_act : mM := (cX11_act, yX11_act, 5, some FieldType.int)
set_option maxRecDepth 100000 in
theorem mv_X11_act : mMV MX11_act 3 := ⟨⟨mT_in 1549 (by decide +kernel) rfl, mT_in 1550 (by decide +kernel) rfl⟩, mT_in 137 (by decide +kernel) rfl, mT_in 1551 rfl rfl, by decide, ⟨by decide, by decide, by decide +kernel⟩⟩
def MX11_trace : mM := (cX11_trace, yX11_trace, 2, some FieldType.int)
set_option maxRecDepth 100000 in
theorem mv_X11_trace : mMV MX11_trace 1 := ⟨⟨mT_in 1572 (by decide +kernel) rfl, mT_in 1573 (by decide +kernel) rfl⟩, mT_in 137 (by decide +kernel) rfl, mT_in 1574 rfl rfl, by decide, ⟨by decide, by decide, by decide +kernel⟩⟩
def MX11_taken : mM := (cX11_taken, yX11_taken, 4, some FieldType.int)
set_option maxRecDepth 100000 in
theorem mv_X11_taken : mMV MX11_taken 2 := ⟨⟨mT_in 1576 (by decide +kernel) rfl, mT_in 1577 (by decide +kernel) rfl⟩, mT_in 137 (by decide +kernel) rfl, mT_in 1578 rfl rfl, by decide, ⟨by decide, by decide, by decide +kernel⟩⟩
def MX11_count : mM := (cX11_count, yX11_count, 2, some FieldType.int)
set_option maxRecDepth 100000 in
theorem mv_X11_count : mMV MX11_count 1 := ⟨⟨mT_in 1580 (by decide +kernel) rfl, mT_in 1581 (by decide +kernel) rfl⟩, mT_in 137 (by decide +kernel) rfl, mT_in 1582 rfl rfl, by decide, ⟨by decide, by decide, by decide +kernel⟩⟩
def MX11_isTape : mM := (cX11_isTape, yX11_isTape, 1, some FieldType.boolean)
set_option maxRecDepth 100000 in
theorem ms_X11_isTape : mMS MX11_isTape 1 := ⟨mT_in 1588 (by decide +kernel) rfl, mT_in 137 (by decide +kernel) rfl, mT_in 1589 rfl rfl, by decide, ⟨by decide, by decide, by decide +kernel⟩⟩
def MX11_tape : mM := (cX11_tape, yX11_tape, 5, some FieldType.int)
set_option maxRecDepth 100000 in
theorem mv_X11_tape : mMV MX11_tape 3 := ⟨⟨mT_in 1584 (by decide +kernel) rfl, mT_in 1585 (by decide +kernel) rfl⟩, mT_in 137 (by decide +kernel) rfl, mT_in 1586 rfl rfl, by decide, ⟨by decide, by decide, by decide +kernel⟩⟩
def MX11_kept : mM := (cX11_kept, yX11_kept, 3, some FieldType.long)
set_option maxRecDepth 100000 in
theorem ms_X11_kept : mMS MX11_kept 2 := ⟨mT_in 1595 (by decide +kernel) rfl, mT_in 137 (by decide +kernel) rfl, mT_in 1596 rfl rfl, by decide, ⟨by decide, by decide, by decide +kernel⟩⟩
def MX11_item : mM := (cX11_item, yX11_item, 5, some FieldType.int)
set_option maxRecDepth 100000 in
theorem mv_X11_item : mMV MX11_item 3 := ⟨⟨mT_in 1591 (by decide +kernel) rfl, mT_in 1592 (by decide +kernel) rfl⟩, mT_in 137 (by decide +kernel) rfl, mT_in 1593 rfl rfl, by decide, ⟨by decide, by decide, by decide +kernel⟩⟩
def MX11_read : mM := (cX11_read, yX11_read, 3, some FieldType.long)
set_option maxRecDepth 100000 in
theorem mv_X11_read : mMV MX11_read 2 := ⟨⟨mT_in 1598 (by decide +kernel) rfl, mT_in 1599 (by decide +kernel) rfl⟩, mT_in 137 (by decide +kernel) rfl, mT_in 1600 rfl rfl, by decide, ⟨by decide, by decide, by decide +kernel⟩⟩
def MX11_shift : mM := (cX11_shift, yX11_shift, 7, some FieldType.int)
set_option maxRecDepth 100000 in
theorem mv_X11_shift : mMV MX11_shift 5 := ⟨⟨mT_in 1602 (by decide +kernel) rfl, mT_in 1603 (by decide +kernel) rfl⟩, mT_in 137 (by decide +kernel) rfl, mT_in 1604 rfl rfl, by decide, ⟨by decide, by decide, by decide +kernel⟩⟩
def MJ11_isValidCodePoint_9a6ad : mM := (cJ11_isValidCodePoint_9a6ad, yJ11_isValidCodePoint_9a6ad, 2, some FieldType.boolean)
set_option maxRecDepth 100000 in
theorem ms_J11_isValidCodePoint_9a6ad : mMS MJ11_isValidCodePoint_9a6ad 1 := ⟨mT_in 1435 (by decide +kernel) rfl, mT_in 144 (by decide +kernel) rfl, mT_in 1436 rfl rfl, by decide, ⟨by decide, by decide, by decide +kernel⟩⟩
def MJ11_highSurrogate_5068e : mM := (cJ11_highSurrogate_5068e, yJ11_highSurrogate_5068e, 1, some FieldType.char)
set_option maxRecDepth 100000 in
theorem ms_J11_highSurrogate_5068e : mMS MJ11_highSurrogate_5068e 1 := ⟨mT_in 1438 (by decide +kernel) rfl, mT_in 144 (by decide +kernel) rfl, mT_in 1439 rfl rfl, by decide, ⟨by decide, by decide, by decide +kernel⟩⟩
def MJ11_lowSurrogate_5068e : mM := (cJ11_lowSurrogate_5068e, yJ11_lowSurrogate_5068e, 1, some FieldType.char)
set_option maxRecDepth 100000 in
theorem ms_J11_lowSurrogate_5068e : mMS MJ11_lowSurrogate_5068e 1 := ⟨mT_in 1442 (by decide +kernel) rfl, mT_in 144 (by decide +kernel) rfl, mT_in 1443 rfl rfl, by decide, ⟨by decide, by decide, by decide +kernel⟩⟩
def MJ6_lowestOneBit_0f7a4 : mM := (cJ6_lowestOneBit_0f7a4, yJ6_lowestOneBit_0f7a4, 1, some FieldType.int)
set_option maxRecDepth 100000 in
theorem ms_J6_lowestOneBit_0f7a4 : mMS MJ6_lowestOneBit_0f7a4 1 := ⟨mT_in 582 (by decide +kernel) rfl, mT_in 139 (by decide +kernel) rfl, mT_in 583 rfl rfl, by decide, ⟨by decide, by decide, by decide +kernel⟩⟩
def MJ6_numberOfTrailingZeros_0f7a4 : mM := (cJ6_numberOfTrailingZeros_0f7a4, yJ6_numberOfTrailingZeros_0f7a4, 2, some FieldType.int)
set_option maxRecDepth 100000 in
theorem ms_J6_numberOfTrailingZeros_0f7a4 : mMS MJ6_numberOfTrailingZeros_0f7a4 1 := ⟨mT_in 1325 (by decide +kernel) rfl, mT_in 139 (by decide +kernel) rfl, mT_in 1326 rfl rfl, by decide, ⟨by decide, by decide, by decide +kernel⟩⟩
def MJ6_bitCount_0f7a4 : mM := (cJ6_bitCount_0f7a4, yJ6_bitCount_0f7a4, 1, some FieldType.int)
set_option maxRecDepth 100000 in
theorem ms_J6_bitCount_0f7a4 : mMS MJ6_bitCount_0f7a4 1 := ⟨mT_in 523 (by decide +kernel) rfl, mT_in 139 (by decide +kernel) rfl, mT_in 524 rfl rfl, by decide, ⟨by decide, by decide, by decide +kernel⟩⟩
def MJ9_max_7cf53 : mM := (cJ9_max_7cf53, yJ9_max_7cf53, 2, some FieldType.int)
set_option maxRecDepth 100000 in
theorem ms_J9_max_7cf53 : mMS MJ9_max_7cf53 2 := ⟨mT_in 174 (by decide +kernel) rfl, mT_in 128 (by decide +kernel) rfl, mT_in 175 rfl rfl, by decide, ⟨by decide, by decide, by decide +kernel⟩⟩
def MJ9_min_7cf53 : mM := (cJ9_min_7cf53, yJ9_min_7cf53, 2, some FieldType.int)
set_option maxRecDepth 100000 in
theorem ms_J9_min_7cf53 : mMS MJ9_min_7cf53 2 := ⟨mT_in 171 (by decide +kernel) rfl, mT_in 128 (by decide +kernel) rfl, mT_in 172 rfl rfl, by decide, ⟨by decide, by decide, by decide +kernel⟩⟩
def MJ0_length_8abf5 : mM := (cJ0_length_8abf5, yJ0_length_8abf5, 1, some FieldType.int)
set_option maxRecDepth 100000 in
theorem mv_J0_length_8abf5 : mMV MJ0_length_8abf5 0 := ⟨⟨mT_in 679 (by decide +kernel) rfl, mT_in 680 (by decide +kernel) rfl⟩, mT_in 140 (by decide +kernel) rfl, mT_in 681 rfl rfl, by decide, ⟨by decide, by decide, by decide +kernel⟩⟩
def MJ0_charAt_5068e : mM := (cJ0_charAt_5068e, yJ0_charAt_5068e, 2, some FieldType.char)
set_option maxRecDepth 100000 in
theorem mv_J0_charAt_5068e : mMV MJ0_charAt_5068e 1 := ⟨⟨mT_in 689 (by decide +kernel) rfl, mT_in 690 (by decide +kernel) rfl⟩, mT_in 140 (by decide +kernel) rfl, mT_in 691 rfl rfl, by decide, ⟨by decide, by decide, by decide +kernel⟩⟩
def MJ0_indexOf_0f7a4 : mM := (cJ0_indexOf_0f7a4, yJ0_indexOf_0f7a4, 2, some FieldType.int)
set_option maxRecDepth 100000 in
theorem mv_J0_indexOf_0f7a4 : mMV MJ0_indexOf_0f7a4 1 := ⟨⟨mT_in 1391 (by decide +kernel) rfl, mT_in 1392 (by decide +kernel) rfl⟩, mT_in 140 (by decide +kernel) rfl, mT_in 1393 rfl rfl, by decide, ⟨by decide, by decide, by decide +kernel⟩⟩
def MJ0_indexOf_7cf53 : mM := (cJ0_indexOf_7cf53, yJ0_indexOf_7cf53, 3, some FieldType.int)
set_option maxRecDepth 100000 in
theorem mv_J0_indexOf_7cf53 : mMV MJ0_indexOf_7cf53 2 := ⟨⟨mT_in 1395 (by decide +kernel) rfl, mT_in 1396 (by decide +kernel) rfl⟩, mT_in 140 (by decide +kernel) rfl, mT_in 1397 rfl rfl, by decide, ⟨by decide, by decide, by decide +kernel⟩⟩
def MJ0_coder_7d493 : mM := (cJ0_coder_7d493, yJ0_coder_7d493, 1, some FieldType.byte)
set_option maxRecDepth 100000 in
theorem mv_J0_coder_7d493 : mMV MJ0_coder_7d493 0 := ⟨⟨mT_in 683 (by decide +kernel) rfl, mT_in 684 (by decide +kernel) rfl⟩, mT_in 140 (by decide +kernel) rfl, mT_in 685 rfl rfl, by decide, ⟨by decide, by decide, by decide +kernel⟩⟩
def MJ0_isLatin1_aae02 : mM := (cJ0_isLatin1_aae02, yJ0_isLatin1_aae02, 1, some FieldType.boolean)
set_option maxRecDepth 100000 in
theorem mv_J0_isLatin1_aae02 : mMV MJ0_isLatin1_aae02 0 := ⟨⟨mT_in 693 (by decide +kernel) rfl, mT_in 694 (by decide +kernel) rfl⟩, mT_in 140 (by decide +kernel) rfl, mT_in 695 rfl rfl, by decide, ⟨by decide, by decide, by decide +kernel⟩⟩
def MJ0_checkIndex_df160 : mM := (cJ0_checkIndex_df160, yJ0_checkIndex_df160, 2, none)
set_option maxRecDepth 100000 in
theorem ms_J0_checkIndex_df160 : mMS MJ0_checkIndex_df160 2 := ⟨mT_in 700 (by decide +kernel) rfl, mT_in 140 (by decide +kernel) rfl, mT_in 701 rfl rfl, by decide, ⟨by decide, by decide, by decide +kernel⟩⟩
def MJ0_checkBoundsBeginEnd_23922 : mM := (cJ0_checkBoundsBeginEnd_23922, yJ0_checkBoundsBeginEnd_23922, 3, none)
set_option maxRecDepth 100000 in
theorem ms_J0_checkBoundsBeginEnd_23922 : mMS MJ0_checkBoundsBeginEnd_23922 3 := ⟨mT_in 1423 (by decide +kernel) rfl, mT_in 140 (by decide +kernel) rfl, mT_in 1424 rfl rfl, by decide, ⟨by decide, by decide, by decide +kernel⟩⟩
def MJ1_charAt_3b067 : mM := (cJ1_charAt_3b067, yJ1_charAt_3b067, 2, some FieldType.char)
set_option maxRecDepth 100000 in
theorem ms_J1_charAt_3b067 : mMS MJ1_charAt_3b067 2 := ⟨mT_in 697 (by decide +kernel) rfl, mT_in 141 (by decide +kernel) rfl, mT_in 698 rfl rfl, by decide, ⟨by decide, by decide, by decide +kernel⟩⟩
def MJ1_canEncode_9a6ad : mM := (cJ1_canEncode_9a6ad, yJ1_canEncode_9a6ad, 1, some FieldType.boolean)
set_option maxRecDepth 100000 in
theorem ms_J1_canEncode_9a6ad : mMS MJ1_canEncode_9a6ad 1 := ⟨mT_in 1403 (by decide +kernel) rfl, mT_in 141 (by decide +kernel) rfl, mT_in 1404 rfl rfl, by decide, ⟨by decide, by decide, by decide +kernel⟩⟩
def MJ1_indexOf_4cfef : mM := (cJ1_indexOf_4cfef, yJ1_indexOf_4cfef, 4, some FieldType.int)
set_option maxRecDepth 100000 in
theorem ms_J1_indexOf_4cfef : mMS MJ1_indexOf_4cfef 4 := ⟨mT_in 1400 (by decide +kernel) rfl, mT_in 141 (by decide +kernel) rfl, mT_in 1401 rfl rfl, by decide, ⟨by decide, by decide, by decide +kernel⟩⟩
def MJ1_indexOfChar_4cfef : mM := (cJ1_indexOfChar_4cfef, yJ1_indexOfChar_4cfef, 6, some FieldType.int)
set_option maxRecDepth 100000 in
theorem ms_J1_indexOfChar_4cfef : mMS MJ1_indexOfChar_4cfef 4 := ⟨mT_in 1408 (by decide +kernel) rfl, mT_in 141 (by decide +kernel) rfl, mT_in 1409 rfl rfl, by decide, ⟨by decide, by decide, by decide +kernel⟩⟩
def MJ2_getChar_3b067 : mM := (cJ2_getChar_3b067, yJ2_getChar_3b067, 2, some FieldType.char)
set_option maxRecDepth 100000 in
theorem ms_J2_getChar_3b067 : mMS MJ2_getChar_3b067 2 := ⟨mT_in 718 (by decide +kernel) rfl, mT_in 143 (by decide +kernel) rfl, mT_in 719 rfl rfl, by decide, ⟨by decide, by decide, by decide +kernel⟩⟩
def MJ2_length_9d52b : mM := (cJ2_length_9d52b, yJ2_length_9d52b, 1, some FieldType.int)
set_option maxRecDepth 100000 in
theorem ms_J2_length_9d52b : mMS MJ2_length_9d52b 1 := ⟨mT_in 714 (by decide +kernel) rfl, mT_in 143 (by decide +kernel) rfl, mT_in 715 rfl rfl, by decide, ⟨by decide, by decide, by decide +kernel⟩⟩
def MJ2_indexOf_4cfef : mM := (cJ2_indexOf_4cfef, yJ2_indexOf_4cfef, 4, some FieldType.int)
set_option maxRecDepth 100000 in
theorem ms_J2_indexOf_4cfef : mMS MJ2_indexOf_4cfef 4 := ⟨mT_in 1411 (by decide +kernel) rfl, mT_in 143 (by decide +kernel) rfl, mT_in 1412 rfl rfl, by decide, ⟨by decide, by decide, by decide +kernel⟩⟩
def MJ2_indexOfChar_4cfef : mM := (cJ2_indexOfChar_4cfef, yJ2_indexOfChar_4cfef, 4, some FieldType.int)
set_option maxRecDepth 100000 in
theorem ms_J2_indexOfChar_4cfef : mMS MJ2_indexOfChar_4cfef 4 := ⟨mT_in 1417 (by decide +kernel) rfl, mT_in 143 (by decide +kernel) rfl, mT_in 1418 rfl rfl, by decide, ⟨by decide, by decide, by decide +kernel⟩⟩
def MJ2_indexOfCharUnsafe_4cfef : mM := (cJ2_indexOfCharUnsafe_4cfef, yJ2_indexOfCharUnsafe_4cfef, 5, some FieldType.int)
set_option maxRecDepth 100000 in
theorem ms_J2_indexOfCharUnsafe_4cfef : mMS MJ2_indexOfCharUnsafe_4cfef 4 := ⟨mT_in 1429 (by decide +kernel) rfl, mT_in 143 (by decide +kernel) rfl, mT_in 1430 rfl rfl, by decide, ⟨by decide, by decide, by decide +kernel⟩⟩
def MJ2_indexOfSupplementary_4cfef : mM := (cJ2_indexOfSupplementary_4cfef, yJ2_indexOfSupplementary_4cfef, 7, some FieldType.int)
set_option maxRecDepth 100000 in
theorem ms_J2_indexOfSupplementary_4cfef : mMS MJ2_indexOfSupplementary_4cfef 4 := ⟨mT_in 1432 (by decide +kernel) rfl, mT_in 143 (by decide +kernel) rfl, mT_in 1433 rfl rfl, by decide, ⟨by decide, by decide, by decide +kernel⟩⟩
def MJ2_charAt_3b067 : mM := (cJ2_charAt_3b067, yJ2_charAt_3b067, 2, some FieldType.char)
set_option maxRecDepth 100000 in
theorem ms_J2_charAt_3b067 : mMS MJ2_charAt_3b067 2 := ⟨mT_in 708 (by decide +kernel) rfl, mT_in 143 (by decide +kernel) rfl, mT_in 709 rfl rfl, by decide, ⟨by decide, by decide, by decide +kernel⟩⟩
def MJ2_checkIndex_2214a : mM := (cJ2_checkIndex_2214a, yJ2_checkIndex_2214a, 2, none)
set_option maxRecDepth 100000 in
theorem ms_J2_checkIndex_2214a : mMS MJ2_checkIndex_2214a 2 := ⟨mT_in 711 (by decide +kernel) rfl, mT_in 143 (by decide +kernel) rfl, mT_in 712 rfl rfl, by decide, ⟨by decide, by decide, by decide +kernel⟩⟩
def MJ2_checkBoundsBeginEnd_d044e : mM := (cJ2_checkBoundsBeginEnd_d044e, yJ2_checkBoundsBeginEnd_d044e, 3, none)
set_option maxRecDepth 100000 in
theorem ms_J2_checkBoundsBeginEnd_d044e : mMS MJ2_checkBoundsBeginEnd_d044e 3 := ⟨mT_in 1420 (by decide +kernel) rfl, mT_in 143 (by decide +kernel) rfl, mT_in 1421 rfl rfl, by decide, ⟨by decide, by decide, by decide +kernel⟩⟩
def MJ7_fill_d0a16 : mM := (cJ7_fill_d0a16, yJ7_fill_d0a16, 5, none)
set_option maxRecDepth 100000 in
theorem ms_J7_fill_d0a16 : mMS MJ7_fill_d0a16 2 := ⟨mT_in 1053 (by decide +kernel) rfl, mT_in 138 (by decide +kernel) rfl, mT_in 1054 rfl rfl, by decide, ⟨by decide, by decide, by decide +kernel⟩⟩
def MJ7_fill_53178 : mM := (cJ7_fill_53178, yJ7_fill_53178, 4, none)
set_option maxRecDepth 100000 in
theorem ms_J7_fill_53178 : mMS MJ7_fill_53178 2 := ⟨mT_in 486 (by decide +kernel) rfl, mT_in 138 (by decide +kernel) rfl, mT_in 487 rfl rfl, by decide, ⟨by decide, by decide, by decide +kernel⟩⟩
def MJ3_checkIndex_8e157 : mM := (cJ3_checkIndex_8e157, yJ3_checkIndex_8e157, 3, some FieldType.int)
set_option maxRecDepth 100000 in
theorem ms_J3_checkIndex_8e157 : mMS MJ3_checkIndex_8e157 3 := ⟨mT_in 705 (by decide +kernel) rfl, mT_in 142 (by decide +kernel) rfl, mT_in 706 rfl rfl, by decide, ⟨by decide, by decide, by decide +kernel⟩⟩
def MJ3_checkFromToIndex_8c36e : mM := (cJ3_checkFromToIndex_8c36e, yJ3_checkFromToIndex_8c36e, 4, some FieldType.int)
set_option maxRecDepth 100000 in
theorem ms_J3_checkFromToIndex_8c36e : mMS MJ3_checkFromToIndex_8c36e 4 := ⟨mT_in 1426 (by decide +kernel) rfl, mT_in 142 (by decide +kernel) rfl, mT_in 1427 rfl rfl, by decide, ⟨by decide, by decide, by decide +kernel⟩⟩
def ML_law : mM := (cL_law, yL_law, 4, some .boolean)
theorem ck_L_7 : Cond.classLink RL 7 RX10 ∈ mT := mT_in 146 (by decide +kernel) rfl
set_option maxRecDepth 100000 in
theorem mk_L_9 : Cond.methodLink RL 9 yX10_init ∈ mT := mT_in 148 (by decide +kernel) rfl
set_option maxRecDepth 100000 in
theorem mk_X10_3 : Cond.methodLink RX10 3 (⟨"java/lang/Object", "<init>", "()V"⟩ : MethodName) ∈ mT := mT_in 151 (by decide +kernel) rfl
theorem ck_X10_9 : Cond.classLink RX10 9 RX9 ∈ mT := mT_in 154 (by decide +kernel) rfl
theorem mn_X10_11 : (RX10, 11, yX9_init, "BorderQuestions") ∈ mNM := List.mem_of_getElem? (i := 0) rfl
set_option maxRecDepth 100000 in
theorem mk_X9_3 : Cond.methodLink RX9 3 (⟨"java/lang/Object", "<init>", "()V"⟩ : MethodName) ∈ mT := mT_in 159 (by decide +kernel) rfl
theorem ck_X9_9 : Cond.classLink RX9 9 RX3 ∈ mT := mT_in 160 (by decide +kernel) rfl
theorem ck_X9_17 : Cond.classLink RX9 17 RX4 ∈ mT := mT_in 162 (by decide +kernel) rfl
theorem ck_X9_23 : Cond.classLink RX9 23 RX6 ∈ mT := mT_in 164 (by decide +kernel) rfl
theorem mn_X9_25 : (RX9, 25, yX6_init, "BorderQuestions") ∈ mNM := List.mem_of_getElem? (i := 1) rfl
set_option maxRecDepth 100000 in
theorem mk_X6_3 : Cond.methodLink RX6 3 (⟨"java/lang/Object", "<init>", "()V"⟩ : MethodName) ∈ mT := mT_in 169 (by decide +kernel) rfl
set_option maxRecDepth 100000 in
theorem mk_X6_9 : Cond.methodLink RX6 9 yJ9_min_7cf53 ∈ mT := mT_in 170 (by decide +kernel) rfl
set_option maxRecDepth 100000 in
theorem mk_X6_15 : Cond.methodLink RX6 15 yJ9_max_7cf53 ∈ mT := mT_in 173 (by decide +kernel) rfl
theorem fk_X6_24 : Cond.fieldLink RX6 24 (TX6 0).1 (TX6 0).2.1 (TX6 0).2.2.1 ∈ mT := mT_in 176 (by decide +kernel) rfl
theorem fk_X6_18 : Cond.fieldLink RX6 18 (TX6 1).1 (TX6 1).2.1 (TX6 1).2.2.1 ∈ mT := mT_in 177 (by decide +kernel) rfl
theorem fk_X6_28 : Cond.fieldLink RX6 28 (TX6 2).1 (TX6 2).2.1 (TX6 2).2.2.1 ∈ mT := mT_in 178 (by decide +kernel) rfl
theorem fn_X2_156 : (RX2, 156, (TX6 2).1, (TX6 2).2.1, (TX6 2).2.2.1, "BorderQuestions") ∈ mNF := List.mem_of_getElem? (i := 0) rfl
theorem fn_X10_247 : (RX10, 247, (TX6 2).1, (TX6 2).2.1, (TX6 2).2.2.1, "BorderQuestions") ∈ mNF := List.mem_of_getElem? (i := 1) rfl
theorem ac_int : Cond.arrayClass .int ∈ mT := mT_in 188 (by decide +kernel) rfl
set_option maxRecDepth 100000 in
theorem mk_X9_38 : Cond.methodLink RX9 38 yX3_init ∈ mT := mT_in 190 (by decide +kernel) rfl
set_option maxRecDepth 100000 in
theorem mk_X3_3 : Cond.methodLink RX3 3 (⟨"java/lang/Object", "<init>", "()V"⟩ : MethodName) ∈ mT := mT_in 193 (by decide +kernel) rfl
theorem fk_X3_15 : Cond.fieldLink RX3 15 (TX3 0).1 (TX3 0).2.1 (TX3 0).2.2.1 ∈ mT := mT_in 194 (by decide +kernel) rfl
theorem fn_X10_75 : (RX10, 75, (TX3 0).1, (TX3 0).2.1, (TX3 0).2.2.1, "BorderQuestions") ∈ mNF := List.mem_of_getElem? (i := 2) rfl
theorem fn_X7_57 : (RX7, 57, (TX3 0).1, (TX3 0).2.1, (TX3 0).2.2.1, "BorderQuestions") ∈ mNF := List.mem_of_getElem? (i := 3) rfl
theorem fn_X0_26 : (RX0, 26, (TX3 0).1, (TX3 0).2.1, (TX3 0).2.2.1, "BorderQuestions") ∈ mNF := List.mem_of_getElem? (i := 4) rfl
theorem fn_X1_27 : (RX1, 27, (TX3 0).1, (TX3 0).2.1, (TX3 0).2.2.1, "BorderQuestions") ∈ mNF := List.mem_of_getElem? (i := 5) rfl
theorem fk_X3_19 : Cond.fieldLink RX3 19 (TX3 1).1 (TX3 1).2.1 (TX3 1).2.2.1 ∈ mT := mT_in 199 (by decide +kernel) rfl
theorem fn_X10_81 : (RX10, 81, (TX3 1).1, (TX3 1).2.1, (TX3 1).2.2.1, "BorderQuestions") ∈ mNF := List.mem_of_getElem? (i := 6) rfl
theorem fn_X7_38 : (RX7, 38, (TX3 1).1, (TX3 1).2.1, (TX3 1).2.2.1, "BorderQuestions") ∈ mNF := List.mem_of_getElem? (i := 7) rfl
theorem fn_X0_34 : (RX0, 34, (TX3 1).1, (TX3 1).2.1, (TX3 1).2.2.1, "BorderQuestions") ∈ mNF := List.mem_of_getElem? (i := 8) rfl
theorem fn_X2_121 : (RX2, 121, (TX3 1).1, (TX3 1).2.1, (TX3 1).2.2.1, "BorderQuestions") ∈ mNF := List.mem_of_getElem? (i := 9) rfl
theorem fk_X3_22 : Cond.fieldLink RX3 22 (TX3 2).1 (TX3 2).2.1 (TX3 2).2.2.1 ∈ mT := mT_in 204 (by decide +kernel) rfl
theorem fn_X10_84 : (RX10, 84, (TX3 2).1, (TX3 2).2.1, (TX3 2).2.2.1, "BorderQuestions") ∈ mNF := List.mem_of_getElem? (i := 10) rfl
theorem fn_X7_64 : (RX7, 64, (TX3 2).1, (TX3 2).2.1, (TX3 2).2.2.1, "BorderQuestions") ∈ mNF := List.mem_of_getElem? (i := 11) rfl
theorem fn_X2_110 : (RX2, 110, (TX3 2).1, (TX3 2).2.1, (TX3 2).2.2.1, "BorderQuestions") ∈ mNF := List.mem_of_getElem? (i := 12) rfl
theorem fn_X9_94 : (RX9, 94, (TX3 2).1, (TX3 2).2.1, (TX3 2).2.2.1, "BorderQuestions") ∈ mNF := List.mem_of_getElem? (i := 13) rfl
theorem fk_X3_25 : Cond.fieldLink RX3 25 (TX3 3).1 (TX3 3).2.1 (TX3 3).2.2.1 ∈ mT := mT_in 209 (by decide +kernel) rfl
theorem fn_X10_87 : (RX10, 87, (TX3 3).1, (TX3 3).2.1, (TX3 3).2.2.1, "BorderQuestions") ∈ mNF := List.mem_of_getElem? (i := 14) rfl
theorem fn_X7_54 : (RX7, 54, (TX3 3).1, (TX3 3).2.1, (TX3 3).2.2.1, "BorderQuestions") ∈ mNF := List.mem_of_getElem? (i := 15) rfl
theorem fn_X1_32 : (RX1, 32, (TX3 3).1, (TX3 3).2.1, (TX3 3).2.2.1, "BorderQuestions") ∈ mNF := List.mem_of_getElem? (i := 16) rfl
theorem fk_X3_9 : Cond.fieldLink RX3 9 (TX3 4).1 (TX3 4).2.1 (TX3 4).2.2.1 ∈ mT := mT_in 213 (by decide +kernel) rfl
theorem fn_X7_60 : (RX7, 60, (TX3 4).1, (TX3 4).2.1, (TX3 4).2.2.1, "BorderQuestions") ∈ mNF := List.mem_of_getElem? (i := 17) rfl
set_option maxRecDepth 100000 in
theorem mk_X9_39 : Cond.methodLink RX9 39 yX4_init ∈ mT := mT_in 227 (by decide +kernel) rfl
set_option maxRecDepth 100000 in
theorem mk_X4_3 : Cond.methodLink RX4 3 (⟨"java/lang/Object", "<init>", "()V"⟩ : MethodName) ∈ mT := mT_in 230 (by decide +kernel) rfl
theorem fk_X4_9 : Cond.fieldLink RX4 9 (TX4 0).1 (TX4 0).2.1 (TX4 0).2.2.1 ∈ mT := mT_in 231 (by decide +kernel) rfl
theorem fn_X2_49 : (RX2, 49, (TX4 0).1, (TX4 0).2.1, (TX4 0).2.2.1, "BorderQuestions") ∈ mNF := List.mem_of_getElem? (i := 18) rfl
theorem fn_X10_108 : (RX10, 108, (TX4 0).1, (TX4 0).2.1, (TX4 0).2.2.1, "BorderQuestions") ∈ mNF := List.mem_of_getElem? (i := 19) rfl
theorem fn_X7_80 : (RX7, 80, (TX4 0).1, (TX4 0).2.1, (TX4 0).2.2.1, "BorderQuestions") ∈ mNF := List.mem_of_getElem? (i := 20) rfl
theorem fk_X4_15 : Cond.fieldLink RX4 15 (TX4 1).1 (TX4 1).2.1 (TX4 1).2.2.1 ∈ mT := mT_in 235 (by decide +kernel) rfl
theorem fn_X10_130 : (RX10, 130, (TX4 1).1, (TX4 1).2.1, (TX4 1).2.2.1, "BorderQuestions") ∈ mNF := List.mem_of_getElem? (i := 21) rfl
theorem fn_X2_96 : (RX2, 96, (TX4 1).1, (TX4 1).2.1, (TX4 1).2.2.1, "BorderQuestions") ∈ mNF := List.mem_of_getElem? (i := 22) rfl
theorem fn_X9_83 : (RX9, 83, (TX4 1).1, (TX4 1).2.1, (TX4 1).2.2.1, "BorderQuestions") ∈ mNF := List.mem_of_getElem? (i := 23) rfl
theorem fk_X4_18 : Cond.fieldLink RX4 18 (TX4 2).1 (TX4 2).2.1 (TX4 2).2.2.1 ∈ mT := mT_in 239 (by decide +kernel) rfl
theorem fn_X2_44 : (RX2, 44, (TX4 2).1, (TX4 2).2.1, (TX4 2).2.2.1, "BorderQuestions") ∈ mNF := List.mem_of_getElem? (i := 24) rfl
theorem fn_X10_133 : (RX10, 133, (TX4 2).1, (TX4 2).2.1, (TX4 2).2.2.1, "BorderQuestions") ∈ mNF := List.mem_of_getElem? (i := 25) rfl
theorem fn_X7_75 : (RX7, 75, (TX4 2).1, (TX4 2).2.1, (TX4 2).2.2.1, "BorderQuestions") ∈ mNF := List.mem_of_getElem? (i := 26) rfl
theorem fn_X9_80 : (RX9, 80, (TX4 2).1, (TX4 2).2.1, (TX4 2).2.2.1, "BorderQuestions") ∈ mNF := List.mem_of_getElem? (i := 27) rfl
theorem fk_X4_21 : Cond.fieldLink RX4 21 (TX4 3).1 (TX4 3).2.1 (TX4 3).2.2.1 ∈ mT := mT_in 244 (by decide +kernel) rfl
theorem fn_X10_136 : (RX10, 136, (TX4 3).1, (TX4 3).2.1, (TX4 3).2.2.1, "BorderQuestions") ∈ mNF := List.mem_of_getElem? (i := 28) rfl
theorem fn_X7_103 : (RX7, 103, (TX4 3).1, (TX4 3).2.1, (TX4 3).2.2.1, "BorderQuestions") ∈ mNF := List.mem_of_getElem? (i := 29) rfl
theorem fk_X9_11 : Cond.fieldLink RX9 11 (TX9 0).1 (TX9 0).2.1 (TX9 0).2.2.1 ∈ mT := mT_in 256 (by decide +kernel) rfl
theorem fk_X9_19 : Cond.fieldLink RX9 19 (TX9 1).1 (TX9 1).2.1 (TX9 1).2.2.1 ∈ mT := mT_in 257 (by decide +kernel) rfl
theorem fk_X9_28 : Cond.fieldLink RX9 28 (TX9 2).1 (TX9 2).2.1 (TX9 2).2.2.1 ∈ mT := mT_in 258 (by decide +kernel) rfl
theorem fn_X2_152 : (RX2, 152, (TX9 2).1, (TX9 2).2.1, (TX9 2).2.2.1, "BorderQuestions") ∈ mNF := List.mem_of_getElem? (i := 30) rfl
theorem fn_X10_205 : (RX10, 205, (TX9 2).1, (TX9 2).2.1, (TX9 2).2.2.1, "BorderQuestions") ∈ mNF := List.mem_of_getElem? (i := 31) rfl
theorem fk_X9_32 : Cond.fieldLink RX9 32 (TX9 3).1 (TX9 3).2.1 (TX9 3).2.2.1 ∈ mT := mT_in 261 (by decide +kernel) rfl
theorem fn_X10_240 : (RX10, 240, (TX9 3).1, (TX9 3).2.1, (TX9 3).2.2.1, "BorderQuestions") ∈ mNF := List.mem_of_getElem? (i := 32) rfl
theorem fk_X9_35 : Cond.fieldLink RX9 35 (TX9 4).1 (TX9 4).2.1 (TX9 4).2.2.1 ∈ mT := mT_in 263 (by decide +kernel) rfl
theorem fn_X10_259 : (RX10, 259, (TX9 4).1, (TX9 4).2.1, (TX9 4).2.2.1, "BorderQuestions") ∈ mNF := List.mem_of_getElem? (i := 33) rfl
theorem fk_X9_40 : Cond.fieldLink RX9 40 (TX9 5).1 (TX9 5).2.1 (TX9 5).2.2.1 ∈ mT := mT_in 265 (by decide +kernel) rfl
theorem fn_X2_40 : (RX2, 40, (TX9 5).1, (TX9 5).2.1, (TX9 5).2.2.1, "BorderQuestions") ∈ mNF := List.mem_of_getElem? (i := 34) rfl
theorem fn_X7_114 : (RX7, 114, (TX9 5).1, (TX9 5).2.1, (TX9 5).2.2.1, "BorderQuestions") ∈ mNF := List.mem_of_getElem? (i := 35) rfl
theorem fn_X10_234 : (RX10, 234, (TX9 5).1, (TX9 5).2.1, (TX9 5).2.2.1, "BorderQuestions") ∈ mNF := List.mem_of_getElem? (i := 36) rfl
theorem fk_X9_44 : Cond.fieldLink RX9 44 (TX9 6).1 (TX9 6).2.1 (TX9 6).2.2.1 ∈ mT := mT_in 269 (by decide +kernel) rfl
theorem fn_X2_80 : (RX2, 80, (TX9 6).1, (TX9 6).2.1, (TX9 6).2.2.1, "BorderQuestions") ∈ mNF := List.mem_of_getElem? (i := 37) rfl
theorem fn_X7_100 : (RX7, 100, (TX9 6).1, (TX9 6).2.1, (TX9 6).2.2.1, "BorderQuestions") ∈ mNF := List.mem_of_getElem? (i := 38) rfl
theorem fn_X10_295 : (RX10, 295, (TX9 6).1, (TX9 6).2.1, (TX9 6).2.2.1, "BorderQuestions") ∈ mNF := List.mem_of_getElem? (i := 39) rfl
theorem fn_X7_43 : (RX7, 43, (TX9 7).1, (TX9 7).2.1, (TX9 7).2.2.1, "BorderQuestions") ∈ mNF := List.mem_of_getElem? (i := 40) rfl
theorem fk_X9_61 : Cond.fieldLink RX9 61 (TX9 7).1 (TX9 7).2.1 (TX9 7).2.2.1 ∈ mT := mT_in 274 (by decide +kernel) rfl
theorem fn_X2_136 : (RX2, 136, (TX9 7).1, (TX9 7).2.1, (TX9 7).2.2.1, "BorderQuestions") ∈ mNF := List.mem_of_getElem? (i := 41) rfl
theorem fn_X10_166 : (RX10, 166, (TX9 7).1, (TX9 7).2.1, (TX9 7).2.2.1, "BorderQuestions") ∈ mNF := List.mem_of_getElem? (i := 42) rfl
theorem fn_X7_34 : (RX7, 34, (TX9 8).1, (TX9 8).2.1, (TX9 8).2.2.1, "BorderQuestions") ∈ mNF := List.mem_of_getElem? (i := 43) rfl
theorem fk_X9_64 : Cond.fieldLink RX9 64 (TX9 8).1 (TX9 8).2.1 (TX9 8).2.2.1 ∈ mT := mT_in 278 (by decide +kernel) rfl
theorem fn_X10_158 : (RX10, 158, (TX9 8).1, (TX9 8).2.1, (TX9 8).2.2.1, "BorderQuestions") ∈ mNF := List.mem_of_getElem? (i := 44) rfl
theorem fn_X2_132 : (RX2, 132, (TX9 8).1, (TX9 8).2.1, (TX9 8).2.2.1, "BorderQuestions") ∈ mNF := List.mem_of_getElem? (i := 45) rfl
theorem ck_X10_24 : Cond.classLink RX10 24 RX2 ∈ mT := mT_in 300 (by decide +kernel) rfl
set_option maxRecDepth 100000 in
theorem mk_X10_26 : Cond.methodLink RX10 26 yX2_init ∈ mT := mT_in 302 (by decide +kernel) rfl
set_option maxRecDepth 100000 in
theorem mk_X2_3 : Cond.methodLink RX2 3 (⟨"java/lang/Object", "<init>", "()V"⟩ : MethodName) ∈ mT := mT_in 305 (by decide +kernel) rfl
theorem ck_X2_9 : Cond.classLink RX2 9 RX7 ∈ mT := mT_in 306 (by decide +kernel) rfl
theorem mn_X2_11 : (RX2, 11, yX7_init, "BorderQuestions") ∈ mNM := List.mem_of_getElem? (i := 2) rfl
set_option maxRecDepth 100000 in
theorem mk_X7_3 : Cond.methodLink RX7 3 (⟨"java/lang/Object", "<init>", "()V"⟩ : MethodName) ∈ mT := mT_in 311 (by decide +kernel) rfl
theorem ck_X7_9 : Cond.classLink RX7 9 RX1 ∈ mT := mT_in 312 (by decide +kernel) rfl
set_option maxRecDepth 100000 in
theorem mk_X7_17 : Cond.methodLink RX7 17 yX1_init ∈ mT := mT_in 315 (by decide +kernel) rfl
set_option maxRecDepth 100000 in
theorem mk_X1_1 : Cond.methodLink RX1 1 (⟨"java/lang/Object", "<init>", "()V"⟩ : MethodName) ∈ mT := mT_in 318 (by decide +kernel) rfl
theorem fk_X1_9 : Cond.fieldLink RX1 9 (TX1 0).1 (TX1 0).2.1 (TX1 0).2.2.1 ∈ mT := mT_in 319 (by decide +kernel) rfl
theorem fk_X1_13 : Cond.fieldLink RX1 13 (TX1 1).1 (TX1 1).2.1 (TX1 1).2.2.1 ∈ mT := mT_in 320 (by decide +kernel) rfl
theorem fk_X1_16 : Cond.fieldLink RX1 16 (TX1 2).1 (TX1 2).2.1 (TX1 2).2.2.1 ∈ mT := mT_in 321 (by decide +kernel) rfl
theorem fk_X1_20 : Cond.fieldLink RX1 20 (TX1 3).1 (TX1 3).2.1 (TX1 3).2.2.1 ∈ mT := mT_in 322 (by decide +kernel) rfl
theorem fn_X9_71 : (RX9, 71, (TX1 3).1, (TX1 3).2.1, (TX1 3).2.2.1, "BorderQuestions") ∈ mNF := List.mem_of_getElem? (i := 46) rfl
theorem fn_X5_68 : (RX5, 68, (TX1 3).1, (TX1 3).2.1, (TX1 3).2.2.1, "BorderQuestions") ∈ mNF := List.mem_of_getElem? (i := 47) rfl
theorem fk_X7_11 : Cond.fieldLink RX7 11 (TX7 0).1 (TX7 0).2.1 (TX7 0).2.2.1 ∈ mT := mT_in 334 (by decide +kernel) rfl
theorem fk_X7_18 : Cond.fieldLink RX7 18 (TX7 1).1 (TX7 1).2.1 (TX7 1).2.2.1 ∈ mT := mT_in 335 (by decide +kernel) rfl
theorem fn_X10_298 : (RX10, 298, (TX7 1).1, (TX7 1).2.1, (TX7 1).2.2.1, "BorderQuestions") ∈ mNF := List.mem_of_getElem? (i := 48) rfl
theorem fk_X2_12 : Cond.fieldLink RX2 12 (TX2 0).1 (TX2 0).2.1 (TX2 0).2.2.1 ∈ mT := mT_in 342 (by decide +kernel) rfl
theorem fn_X10_31 : (RX10, 31, (TX2 0).1, (TX2 0).2.1, (TX2 0).2.2.1, "BorderQuestions") ∈ mNF := List.mem_of_getElem? (i := 49) rfl
theorem fk_X2_18 : Cond.fieldLink RX2 18 (TX2 1).1 (TX2 1).2.1 (TX2 1).2.2.1 ∈ mT := mT_in 344 (by decide +kernel) rfl
theorem fk_X2_22 : Cond.fieldLink RX2 22 (TX2 2).1 (TX2 2).2.1 (TX2 2).2.2.1 ∈ mT := mT_in 345 (by decide +kernel) rfl
theorem fk_X2_25 : Cond.fieldLink RX2 25 (TX2 3).1 (TX2 3).2.1 (TX2 3).2.2.1 ∈ mT := mT_in 346 (by decide +kernel) rfl
theorem fk_X2_28 : Cond.fieldLink RX2 28 (TX2 4).1 (TX2 4).2.1 (TX2 4).2.2.1 ∈ mT := mT_in 347 (by decide +kernel) rfl
theorem fk_X2_31 : Cond.fieldLink RX2 31 (TX2 5).1 (TX2 5).2.1 (TX2 5).2.2.1 ∈ mT := mT_in 348 (by decide +kernel) rfl
theorem fk_X2_149 : Cond.fieldLink RX2 149 (TX2 6).1 (TX2 6).2.1 (TX2 6).2.2.1 ∈ mT := mT_in 349 (by decide +kernel) rfl
theorem ck_X10_36 : Cond.classLink RX10 36 RX5 ∈ mT := mT_in 365 (by decide +kernel) rfl
set_option maxRecDepth 100000 in
theorem mk_X10_38 : Cond.methodLink RX10 38 yX5_init ∈ mT := mT_in 367 (by decide +kernel) rfl
set_option maxRecDepth 100000 in
theorem mk_X5_3 : Cond.methodLink RX5 3 (⟨"java/lang/Object", "<init>", "()V"⟩ : MethodName) ∈ mT := mT_in 370 (by decide +kernel) rfl
theorem fk_X5_11 : Cond.fieldLink RX5 11 (TX5 0).1 (TX5 0).2.1 (TX5 0).2.2.1 ∈ mT := mT_in 371 (by decide +kernel) rfl
theorem fk_X5_15 : Cond.fieldLink RX5 15 (TX5 1).1 (TX5 1).2.1 (TX5 1).2.2.1 ∈ mT := mT_in 372 (by decide +kernel) rfl
theorem fn_X10_301 : (RX10, 301, (TX5 1).1, (TX5 1).2.1, (TX5 1).2.2.1, "BorderQuestions") ∈ mNF := List.mem_of_getElem? (i := 50) rfl
theorem fk_X5_43 : Cond.fieldLink RX5 43 (TX5 2).1 (TX5 2).2.1 (TX5 2).2.2.1 ∈ mT := mT_in 374 (by decide +kernel) rfl
theorem fk_X5_36 : Cond.fieldLink RX5 36 (TX5 3).1 (TX5 3).2.1 (TX5 3).2.2.1 ∈ mT := mT_in 375 (by decide +kernel) rfl
theorem fk_X5_65 : Cond.fieldLink RX5 65 (TX5 4).1 (TX5 4).2.1 (TX5 4).2.2.1 ∈ mT := mT_in 376 (by decide +kernel) rfl
theorem fk_X5_19 : Cond.fieldLink RX5 19 (TX5 5).1 (TX5 5).2.1 (TX5 5).2.2.1 ∈ mT := mT_in 377 (by decide +kernel) rfl
theorem ac_byte : Cond.arrayClass .byte ∈ mT := mT_in 391 (by decide +kernel) rfl
theorem ck_X10_43 : Cond.classLink RX10 43 RX0 ∈ mT := mT_in 392 (by decide +kernel) rfl
set_option maxRecDepth 100000 in
theorem mk_X10_45 : Cond.methodLink RX10 45 yX0_init ∈ mT := mT_in 394 (by decide +kernel) rfl
set_option maxRecDepth 100000 in
theorem mk_X0_3 : Cond.methodLink RX0 3 (⟨"java/lang/Object", "<init>", "()V"⟩ : MethodName) ∈ mT := mT_in 397 (by decide +kernel) rfl
theorem fk_X0_11 : Cond.fieldLink RX0 11 (TX0 0).1 (TX0 0).2.1 (TX0 0).2.2.1 ∈ mT := mT_in 398 (by decide +kernel) rfl
theorem fk_X0_22 : Cond.fieldLink RX0 22 (TX0 1).1 (TX0 1).2.1 (TX0 1).2.2.1 ∈ mT := mT_in 399 (by decide +kernel) rfl
theorem fn_X10_304 : (RX10, 304, (TX0 1).1, (TX0 1).2.1, (TX0 1).2.2.1, "BorderQuestions") ∈ mNF := List.mem_of_getElem? (i := 51) rfl
theorem fk_X0_31 : Cond.fieldLink RX0 31 (TX0 2).1 (TX0 2).2.1 (TX0 2).2.2.1 ∈ mT := mT_in 401 (by decide +kernel) rfl
theorem fk_X0_37 : Cond.fieldLink RX0 37 (TX0 3).1 (TX0 3).2.1 (TX0 3).2.2.1 ∈ mT := mT_in 402 (by decide +kernel) rfl
theorem fk_X0_38 : Cond.fieldLink RX0 38 (TX0 4).1 (TX0 4).2.1 (TX0 4).2.2.1 ∈ mT := mT_in 403 (by decide +kernel) rfl
theorem ck_X10_50 : Cond.classLink RX10 50 RX8 ∈ mT := mT_in 415 (by decide +kernel) rfl
set_option maxRecDepth 100000 in
theorem mk_X10_56 : Cond.methodLink RX10 56 yX8_init ∈ mT := mT_in 418 (by decide +kernel) rfl
set_option maxRecDepth 100000 in
theorem mk_X8_3 : Cond.methodLink RX8 3 (⟨"java/lang/Object", "<init>", "()V"⟩ : MethodName) ∈ mT := mT_in 421 (by decide +kernel) rfl
theorem fk_X8_9 : Cond.fieldLink RX8 9 (TX8 0).1 (TX8 0).2.1 (TX8 0).2.2.1 ∈ mT := mT_in 422 (by decide +kernel) rfl
theorem fn_X10_321 : (RX10, 321, (TX8 0).1, (TX8 0).2.1, (TX8 0).2.2.1, "BorderQuestions") ∈ mNF := List.mem_of_getElem? (i := 52) rfl
theorem fk_X8_15 : Cond.fieldLink RX8 15 (TX8 1).1 (TX8 1).2.1 (TX8 1).2.2.1 ∈ mT := mT_in 424 (by decide +kernel) rfl
theorem fn_X10_270 : (RX10, 270, (TX8 1).1, (TX8 1).2.1, (TX8 1).2.2.1, "BorderQuestions") ∈ mNF := List.mem_of_getElem? (i := 53) rfl
theorem fk_X8_28 : Cond.fieldLink RX8 28 (TX8 2).1 (TX8 2).2.1 (TX8 2).2.2.1 ∈ mT := mT_in 426 (by decide +kernel) rfl
theorem fn_X10_273 : (RX10, 273, (TX8 2).1, (TX8 2).2.1, (TX8 2).2.2.1, "BorderQuestions") ∈ mNF := List.mem_of_getElem? (i := 54) rfl
theorem ac_long : Cond.arrayClass .long ∈ mT := mT_in 435 (by decide +kernel) rfl
theorem fk_X10_12 : Cond.fieldLink RX10 12 (TX10 0).1 (TX10 0).2.1 (TX10 0).2.2.1 ∈ mT := mT_in 436 (by decide +kernel) rfl
theorem fk_X10_18 : Cond.fieldLink RX10 18 (TX10 1).1 (TX10 1).2.1 (TX10 1).2.2.1 ∈ mT := mT_in 437 (by decide +kernel) rfl
theorem fk_X10_21 : Cond.fieldLink RX10 21 (TX10 2).1 (TX10 2).2.1 (TX10 2).2.2.1 ∈ mT := mT_in 438 (by decide +kernel) rfl
theorem fk_X10_27 : Cond.fieldLink RX10 27 (TX10 3).1 (TX10 3).2.1 (TX10 3).2.2.1 ∈ mT := mT_in 439 (by decide +kernel) rfl
theorem fk_X10_35 : Cond.fieldLink RX10 35 (TX10 4).1 (TX10 4).2.1 (TX10 4).2.2.1 ∈ mT := mT_in 440 (by decide +kernel) rfl
theorem fk_X10_39 : Cond.fieldLink RX10 39 (TX10 5).1 (TX10 5).2.1 (TX10 5).2.2.1 ∈ mT := mT_in 441 (by decide +kernel) rfl
theorem fk_X10_46 : Cond.fieldLink RX10 46 (TX10 6).1 (TX10 6).2.1 (TX10 6).2.2.1 ∈ mT := mT_in 442 (by decide +kernel) rfl
theorem fk_X10_52 : Cond.fieldLink RX10 52 (TX10 7).1 (TX10 7).2.1 (TX10 7).2.2.1 ∈ mT := mT_in 443 (by decide +kernel) rfl
theorem fk_X10_278 : Cond.fieldLink RX10 278 (TX10 8).1 (TX10 8).2.1 (TX10 8).2.2.1 ∈ mT := mT_in 444 (by decide +kernel) rfl
set_option maxRecDepth 100000 in
theorem mk_L_13 : Cond.methodLink RL 13 yX10_guard ∈ mT := mT_in 464 (by decide +kernel) rfl
set_option maxRecDepth 100000 in
theorem mk_X10_57 : Cond.methodLink RX10 57 yX10_isKind ∈ mT := mT_in 468 (by decide +kernel) rfl
set_option maxRecDepth 100000 in
theorem mk_X10_61 : Cond.methodLink RX10 61 yX10_isDigit ∈ mT := mT_in 471 (by decide +kernel) rfl
set_option maxRecDepth 100000 in
theorem mk_X10_64 : Cond.methodLink RX10 64 yX10_isSet ∈ mT := mT_in 474 (by decide +kernel) rfl
theorem mn_X10_67 : (RX10, 67, yX9_addGuard, "BorderQuestions") ∈ mNM := List.mem_of_getElem? (i := 3) rfl
theorem mn_X9_47 : (RX9, 47, yX3_become, "BorderQuestions") ∈ mNM := List.mem_of_getElem? (i := 4) rfl
set_option maxRecDepth 100000 in
theorem mk_X3_28 : Cond.methodLink RX3 28 yJ7_fill_53178 ∈ mT := mT_in 485 (by decide +kernel) rfl
set_option maxRecDepth 100000 in
theorem mk_L_18 : Cond.methodLink RL 18 yX10_of ∈ mT := mT_in 488 (by decide +kernel) rfl
theorem mn_X10_71 : (RX10, 71, yX9_guardAt, "BorderQuestions") ∈ mNM := List.mem_of_getElem? (i := 5) rfl
theorem mn_X10_90 : (RX10, 90, yX2_stumps, "BorderQuestions") ∈ mNM := List.mem_of_getElem? (i := 6) rfl
theorem mn_X2_106 : (RX2, 106, yX9_guardAt, "BorderQuestions") ∈ mNM := List.mem_of_getElem? (i := 7) rfl
set_option maxRecDepth 100000 in
theorem mk_X2_124 : Cond.methodLink RX2 124 yX2_findStumped ∈ mT := mT_in 501 (by decide +kernel) rfl
set_option maxRecDepth 100000 in
theorem mk_X2_128 : Cond.methodLink RX2 128 yX2_fits ∈ mT := mT_in 505 (by decide +kernel) rfl
theorem mn_X2_139 : (RX2, 139, yX1_bonus, "BorderQuestions") ∈ mNM := List.mem_of_getElem? (i := 8) rfl
set_option maxRecDepth 100000 in
theorem mk_X1_35 : Cond.methodLink RX1 35 yX1_testHolds ∈ mT := mT_in 513 (by decide +kernel) rfl
theorem mn_X2_145 : (RX2, 145, yX7_witKnowing, "BorderQuestions") ∈ mNM := List.mem_of_getElem? (i := 9) rfl
theorem mn_X7_22 : (RX7, 22, yX9_guardAt, "BorderQuestions") ∈ mNM := List.mem_of_getElem? (i := 10) rfl
set_option maxRecDepth 100000 in
theorem mk_X2_60 : Cond.methodLink RX2 60 yJ6_bitCount_0f7a4 ∈ mT := mT_in 522 (by decide +kernel) rfl
theorem kk_J6_265 : Cond.constant RJ6 265 (1431655765) ∈ mT := mT_in 525 (by decide +kernel) rfl
theorem kk_J6_266 : Cond.constant RJ6 266 (858993459) ∈ mT := mT_in 526 (by decide +kernel) rfl
theorem kk_J6_267 : Cond.constant RJ6 267 (252645135) ∈ mT := mT_in 527 (by decide +kernel) rfl
theorem mn_X10_94 : (RX10, 94, yX2_knewCount, "BorderQuestions") ∈ mNM := List.mem_of_getElem? (i := 11) rfl
set_option maxRecDepth 100000 in
theorem mk_X2_170 : Cond.methodLink RX2 170 yX2_findRows ∈ mT := mT_in 532 (by decide +kernel) rfl
theorem mn_X2_161 : (RX2, 161, yX6_second, "BorderQuestions") ∈ mNM := List.mem_of_getElem? (i := 12) rfl
set_option maxRecDepth 100000 in
theorem mk_X6_31 : Cond.methodLink RX6 31 yX6_cell ∈ mT := mT_in 540 (by decide +kernel) rfl
theorem mn_X2_34 : (RX2, 34, yX9_questionAt, "BorderQuestions") ∈ mNM := List.mem_of_getElem? (i := 13) rfl
theorem mn_X2_164 : (RX2, 164, yX6_first, "BorderQuestions") ∈ mNM := List.mem_of_getElem? (i := 14) rfl
theorem mn_X2_167 : (RX2, 167, yX6_third, "BorderQuestions") ∈ mNM := List.mem_of_getElem? (i := 15) rfl
set_option maxRecDepth 100000 in
theorem mk_X2_173 : Cond.methodLink RX2 173 yX2_allFit ∈ mT := mT_in 556 (by decide +kernel) rfl
theorem mn_X10_97 : (RX10, 97, yX2_knewLeast, "BorderQuestions") ∈ mNM := List.mem_of_getElem? (i := 16) rfl
set_option maxRecDepth 100000 in
theorem mk_X10_100 : Cond.methodLink RX10 100 yX10_ofQuestion ∈ mT := mT_in 564 (by decide +kernel) rfl
theorem mn_X10_104 : (RX10, 104, yX9_questionAt, "BorderQuestions") ∈ mNM := List.mem_of_getElem? (i := 17) rfl
theorem mn_X10_113 : (RX10, 113, yX7_wit, "BorderQuestions") ∈ mNM := List.mem_of_getElem? (i := 18) rfl
set_option maxRecDepth 100000 in
theorem mk_X7_28 : Cond.methodLink RX7 28 yJ6_bitCount_0f7a4 ∈ mT := mT_in 573 (by decide +kernel) rfl
theorem mn_X7_46 : (RX7, 46, yX1_bonus, "BorderQuestions") ∈ mNM := List.mem_of_getElem? (i := 19) rfl
set_option maxRecDepth 100000 in
theorem mk_X7_50 : Cond.methodLink RX7 50 yX7_witKnowing ∈ mT := mT_in 575 (by decide +kernel) rfl
theorem mn_X10_119 : (RX10, 119, yX2_study, "BorderQuestions") ∈ mNM := List.mem_of_getElem? (i := 20) rfl
theorem mn_X2_115 : (RX2, 115, yX7_wit, "BorderQuestions") ∈ mNM := List.mem_of_getElem? (i := 21) rfl
set_option maxRecDepth 100000 in
theorem mk_X2_118 : Cond.methodLink RX2 118 yJ6_lowestOneBit_0f7a4 ∈ mT := mT_in 581 (by decide +kernel) rfl
set_option maxRecDepth 100000 in
theorem mk_L_23 : Cond.methodLink RL 23 yX10_question ∈ mT := mT_in 584 (by decide +kernel) rfl
set_option maxRecDepth 100000 in
theorem mk_X10_123 : Cond.methodLink RX10 123 yX10_isUpTo99 ∈ mT := mT_in 588 (by decide +kernel) rfl
theorem mn_X10_126 : (RX10, 126, yX9_addQuestion, "BorderQuestions") ∈ mNM := List.mem_of_getElem? (i := 22) rfl
theorem mn_X9_51 : (RX9, 51, yX4_become, "BorderQuestions") ∈ mNM := List.mem_of_getElem? (i := 23) rfl
set_option maxRecDepth 100000 in
theorem mk_L_27 : Cond.methodLink RL 27 yX10_sack ∈ mT := mT_in 599 (by decide +kernel) rfl
set_option maxRecDepth 100000 in
theorem mk_L_31 : Cond.methodLink RL 31 yX10_know ∈ mT := mT_in 603 (by decide +kernel) rfl
set_option maxRecDepth 100000 in
theorem mk_L_35 : Cond.methodLink RL 35 yX10_tire ∈ mT := mT_in 607 (by decide +kernel) rfl
set_option maxRecDepth 100000 in
theorem mk_L_39 : Cond.methodLink RL 39 yX10_bring ∈ mT := mT_in 611 (by decide +kernel) rfl
set_option maxRecDepth 100000 in
theorem mk_L_43 : Cond.methodLink RL 43 yX10_ask ∈ mT := mT_in 615 (by decide +kernel) rfl
theorem mn_X10_139 : (RX10, 139, yX7_putTo, "BorderQuestions") ∈ mNM := List.mem_of_getElem? (i := 24) rfl
theorem mn_X7_71 : (RX7, 71, yX9_questionAt, "BorderQuestions") ∈ mNM := List.mem_of_getElem? (i := 25) rfl
set_option maxRecDepth 100000 in
theorem mk_X7_83 : Cond.methodLink RX7 83 yX7_answers ∈ mT := mT_in 624 (by decide +kernel) rfl
set_option maxRecDepth 100000 in
theorem mk_X7_67 : Cond.methodLink RX7 67 yX7_wit ∈ mT := mT_in 628 (by decide +kernel) rfl
set_option maxRecDepth 100000 in
theorem mk_X7_87 : Cond.methodLink RX7 87 yJ9_min_7cf53 ∈ mT := mT_in 629 (by decide +kernel) rfl
set_option maxRecDepth 100000 in
theorem mk_X7_93 : Cond.methodLink RX7 93 yJ6_lowestOneBit_0f7a4 ∈ mT := mT_in 630 (by decide +kernel) rfl
set_option maxRecDepth 100000 in
theorem mk_L_47 : Cond.methodLink RL 47 yX10_row ∈ mT := mT_in 631 (by decide +kernel) rfl
theorem mn_X10_143 : (RX10, 143, yX3_changeRow, "BorderQuestions") ∈ mNM := List.mem_of_getElem? (i := 26) rfl
set_option maxRecDepth 100000 in
theorem mk_L_51 : Cond.methodLink RL 51 yX10_feed ∈ mT := mT_in 639 (by decide +kernel) rfl
theorem mn_X10_146 : (RX10, 146, yX5_add, "BorderQuestions") ∈ mNM := List.mem_of_getElem? (i := 27) rfl
set_option maxRecDepth 100000 in
theorem mk_L_56 : Cond.methodLink RL 56 yX10_border ∈ mT := mT_in 647 (by decide +kernel) rfl
theorem mn_X10_150 : (RX10, 150, yX7_spareBorder, "BorderQuestions") ∈ mNM := List.mem_of_getElem? (i := 28) rfl
theorem mn_X10_154 : (RX10, 154, yX5_readInto, "BorderQuestions") ∈ mNM := List.mem_of_getElem? (i := 29) rfl
theorem mn_X5_23 : (RX5, 23, yX1_clear, "BorderQuestions") ∈ mNM := List.mem_of_getElem? (i := 30) rfl
set_option maxRecDepth 100000 in
theorem mk_X5_28 : Cond.methodLink RX5 28 yX5_goTo ∈ mT := mT_in 663 (by decide +kernel) rfl
set_option maxRecDepth 100000 in
theorem mk_X5_32 : Cond.methodLink RX5 32 yX5_readClause ∈ mT := mT_in 667 (by decide +kernel) rfl
set_option maxRecDepth 100000 in
theorem mk_X5_61 : Cond.methodLink RX5 61 yX5_readNumbered ∈ mT := mT_in 674 (by decide +kernel) rfl
set_option maxRecDepth 100000 in
theorem mk_X5_46 : Cond.methodLink RX5 46 yJ0_length_8abf5 ∈ mT := mT_in 678 (by decide +kernel) rfl
set_option maxRecDepth 100000 in
theorem mk_J0_335 : Cond.methodLink RJ0 335 yJ0_coder_7d493 ∈ mT := mT_in 682 (by decide +kernel) rfl
theorem fk_J0_38 : Cond.fieldLink RJ0 38 "java/lang/String" "COMPACT_STRINGS" "Z" ∈ mT := mT_in 686 (by decide +kernel) rfl
set_option maxRecDepth 100000 in
theorem mk_X5_51 : Cond.methodLink RX5 51 yJ0_charAt_5068e ∈ mT := mT_in 688 (by decide +kernel) rfl
set_option maxRecDepth 100000 in
theorem mk_J0_492 : Cond.methodLink RJ0 492 yJ0_isLatin1_aae02 ∈ mT := mT_in 692 (by decide +kernel) rfl
set_option maxRecDepth 100000 in
theorem mk_J0_495 : Cond.methodLink RJ0 495 yJ1_charAt_3b067 ∈ mT := mT_in 696 (by decide +kernel) rfl
set_option maxRecDepth 100000 in
theorem mk_J1_9 : Cond.methodLink RJ1 9 yJ0_checkIndex_df160 ∈ mT := mT_in 699 (by decide +kernel) rfl
theorem fk_J0_1053 : Cond.fieldLink RJ0 1053 "jdk/internal/util/Preconditions" "SIOOBE_FORMATTER" "Ljava/util/function/BiFunction;" ∈ mT := mT_in 702 (by decide +kernel) rfl
set_option maxRecDepth 100000 in
theorem mk_J0_1059 : Cond.methodLink RJ0 1059 yJ3_checkIndex_8e157 ∈ mT := mT_in 704 (by decide +kernel) rfl
set_option maxRecDepth 100000 in
theorem mk_J0_498 : Cond.methodLink RJ0 498 yJ2_charAt_3b067 ∈ mT := mT_in 707 (by decide +kernel) rfl
set_option maxRecDepth 100000 in
theorem mk_J2_67 : Cond.methodLink RJ2 67 yJ2_checkIndex_2214a ∈ mT := mT_in 710 (by decide +kernel) rfl
set_option maxRecDepth 100000 in
theorem mk_J2_48 : Cond.methodLink RJ2 48 yJ2_length_9d52b ∈ mT := mT_in 713 (by decide +kernel) rfl
set_option maxRecDepth 100000 in
theorem mk_J2_414 : Cond.methodLink RJ2 414 yJ0_checkIndex_df160 ∈ mT := mT_in 716 (by decide +kernel) rfl
set_option maxRecDepth 100000 in
theorem mk_J2_71 : Cond.methodLink RJ2 71 yJ2_getChar_3b067 ∈ mT := mT_in 717 (by decide +kernel) rfl
theorem fk_J2_44 : Cond.fieldLink RJ2 44 "java/lang/StringUTF16" "$assertionsDisabled" "Z" ∈ mT := mT_in 720 (by decide +kernel) rfl
theorem fk_J2_59 : Cond.fieldLink RJ2 59 "java/lang/StringUTF16" "HI_BYTE_SHIFT" "I" ∈ mT := mT_in 722 (by decide +kernel) rfl
theorem fk_J2_63 : Cond.fieldLink RJ2 63 "java/lang/StringUTF16" "LO_BYTE_SHIFT" "I" ∈ mT := mT_in 724 (by decide +kernel) rfl
set_option maxRecDepth 100000 in
theorem mk_X5_39 : Cond.methodLink RX5 39 yX5_skip ∈ mT := mT_in 726 (by decide +kernel) rfl
set_option maxRecDepth 100000 in
theorem mk_X5_77 : Cond.methodLink RX5 77 yX5_readNumber ∈ mT := mT_in 730 (by decide +kernel) rfl
set_option maxRecDepth 100000 in
theorem mk_X5_82 : Cond.methodLink RX5 82 yX5_placeIn ∈ mT := mT_in 735 (by decide +kernel) rfl
set_option maxRecDepth 100000 in
theorem mk_X5_71 : Cond.methodLink RX5 71 yX5_readEither ∈ mT := mT_in 739 (by decide +kernel) rfl
set_option maxRecDepth 100000 in
theorem mk_X5_86 : Cond.methodLink RX5 86 yX5_readPart ∈ mT := mT_in 743 (by decide +kernel) rfl
set_option maxRecDepth 100000 in
theorem mk_X5_92 : Cond.methodLink RX5 92 yX5_readTest ∈ mT := mT_in 747 (by decide +kernel) rfl
theorem mn_X5_99 : (RX5, 99, yX1_addTest, "BorderQuestions") ∈ mNM := List.mem_of_getElem? (i := 31) rfl
set_option maxRecDepth 100000 in
theorem mk_X1_23 : Cond.methodLink RX1 23 yX1_addCode ∈ mT := mT_in 757 (by decide +kernel) rfl
theorem mn_X5_89 : (RX5, 89, yX1_addCode, "BorderQuestions") ∈ mNM := List.mem_of_getElem? (i := 32) rfl
theorem mn_X5_74 : (RX5, 74, yX1_addWorth, "BorderQuestions") ∈ mNM := List.mem_of_getElem? (i := 33) rfl
theorem mn_X10_162 : (RX10, 162, yX7_keepSpare, "BorderQuestions") ∈ mNM := List.mem_of_getElem? (i := 34) rfl
set_option maxRecDepth 100000 in
theorem mk_L_61 : Cond.methodLink RL 61 yX10_told ∈ mT := mT_in 770 (by decide +kernel) rfl
theorem mn_X10_169 : (RX10, 169, yX9_rest, "BorderQuestions") ∈ mNM := List.mem_of_getElem? (i := 35) rfl
theorem mn_X10_172 : (RX10, 172, yX9_goodsThrough, "BorderQuestions") ∈ mNM := List.mem_of_getElem? (i := 36) rfl
set_option maxRecDepth 100000 in
theorem mk_X9_76 : Cond.methodLink RX9 76 yX9_questionAt ∈ mT := mT_in 782 (by decide +kernel) rfl
theorem mn_X10_175 : (RX10, 175, yX9_finedCount, "BorderQuestions") ∈ mNM := List.mem_of_getElem? (i := 37) rfl
theorem mn_X10_178 : (RX10, 178, yX9_waiting, "BorderQuestions") ∈ mNM := List.mem_of_getElem? (i := 38) rfl
set_option maxRecDepth 100000 in
theorem mk_X9_86 : Cond.methodLink RX9 86 yX9_isWaiting ∈ mT := mT_in 791 (by decide +kernel) rfl
theorem mn_X10_181 : (RX10, 181, yX2_enough, "BorderQuestions") ∈ mNM := List.mem_of_getElem? (i := 39) rfl
set_option maxRecDepth 100000 in
theorem mk_X2_56 : Cond.methodLink RX2 56 yX2_findAble ∈ mT := mT_in 799 (by decide +kernel) rfl
theorem mn_X2_52 : (RX2, 52, yX7_answers, "BorderQuestions") ∈ mNM := List.mem_of_getElem? (i := 40) rfl
set_option maxRecDepth 100000 in
theorem mk_X2_66 : Cond.methodLink RX2 66 yX2_answersAll ∈ mT := mT_in 804 (by decide +kernel) rfl
theorem mn_X2_70 : (RX2, 70, yX9_isWaiting, "BorderQuestions") ∈ mNM := List.mem_of_getElem? (i := 41) rfl
theorem mn_X10_185 : (RX10, 185, yX2_loadGoods, "BorderQuestions") ∈ mNM := List.mem_of_getElem? (i := 42) rfl
set_option maxRecDepth 100000 in
theorem mk_X2_99 : Cond.methodLink RX2 99 yX2_findMost ∈ mT := mT_in 813 (by decide +kernel) rfl
set_option maxRecDepth 100000 in
theorem mk_X2_74 : Cond.methodLink RX2 74 yJ7_fill_53178 ∈ mT := mT_in 817 (by decide +kernel) rfl
set_option maxRecDepth 100000 in
theorem mk_X2_83 : Cond.methodLink RX2 83 yX2_mostFrom ∈ mT := mT_in 818 (by decide +kernel) rfl
set_option maxRecDepth 100000 in
theorem mk_X2_87 : Cond.methodLink RX2 87 yX2_mostBy ∈ mT := mT_in 822 (by decide +kernel) rfl
set_option maxRecDepth 100000 in
theorem mk_X2_91 : Cond.methodLink RX2 91 yJ9_max_7cf53 ∈ mT := mT_in 826 (by decide +kernel) rfl
theorem mn_X10_188 : (RX10, 188, yX2_loadGuard, "BorderQuestions") ∈ mNM := List.mem_of_getElem? (i := 43) rfl
set_option maxRecDepth 100000 in
theorem mk_X2_102 : Cond.methodLink RX2 102 yX2_firstBest ∈ mT := mT_in 831 (by decide +kernel) rfl
set_option maxRecDepth 100000 in
theorem mk_L_65 : Cond.methodLink RL 65 yX10_pass ∈ mT := mT_in 835 (by decide +kernel) rfl
set_option maxRecDepth 100000 in
theorem mk_X10_191 : Cond.methodLink RX10 191 yX10_isHours ∈ mT := mT_in 839 (by decide +kernel) rfl
theorem mn_X10_194 : (RX10, 194, yX7_letPass, "BorderQuestions") ∈ mNM := List.mem_of_getElem? (i := 44) rfl
set_option maxRecDepth 100000 in
theorem mk_X7_96 : Cond.methodLink RX7 96 yX7_letHourPass ∈ mT := mT_in 846 (by decide +kernel) rfl
set_option maxRecDepth 100000 in
theorem mk_X7_106 : Cond.methodLink RX7 106 yX7_putTo ∈ mT := mT_in 850 (by decide +kernel) rfl
theorem mn_X7_110 : (RX7, 110, yX9_rest, "BorderQuestions") ∈ mNM := List.mem_of_getElem? (i := 45) rfl
set_option maxRecDepth 100000 in
theorem mk_X7_117 : Cond.methodLink RX7 117 yJ9_max_7cf53 ∈ mT := mT_in 852 (by decide +kernel) rfl
set_option maxRecDepth 100000 in
theorem mk_L_69 : Cond.methodLink RL 69 yX10_on ∈ mT := mT_in 853 (by decide +kernel) rfl
theorem mn_X10_198 : (RX10, 198, yX9_copy, "BorderQuestions") ∈ mNM := List.mem_of_getElem? (i := 46) rfl
theorem mn_X9_54 : (RX9, 54, yX3_copy, "BorderQuestions") ∈ mNM := List.mem_of_getElem? (i := 47) rfl
set_option maxRecDepth 100000 in
theorem mk_X3_34 : Cond.methodLink RX3 34 (⟨"java/lang/System", "arraycopy", "(Ljava/lang/Object;ILjava/lang/Object;II)V"⟩ : MethodName) ∈ mT := mT_in 865 (by decide +kernel) rfl
theorem mn_X9_58 : (RX9, 58, yX4_copy, "BorderQuestions") ∈ mNM := List.mem_of_getElem? (i := 48) rfl
theorem mn_X9_68 : (RX9, 68, yX6_copy, "BorderQuestions") ∈ mNM := List.mem_of_getElem? (i := 49) rfl
set_option maxRecDepth 100000 in
theorem mk_X6_34 : Cond.methodLink RX6 34 (⟨"java/lang/System", "arraycopy", "(Ljava/lang/Object;ILjava/lang/Object;II)V"⟩ : MethodName) ∈ mT := mT_in 876 (by decide +kernel) rfl
set_option maxRecDepth 100000 in
theorem mk_X10_202 : Cond.methodLink RX10 202 yX10_onTried ∈ mT := mT_in 877 (by decide +kernel) rfl
set_option maxRecDepth 100000 in
theorem mk_L_73 : Cond.methodLink RL 73 yX10_hear ∈ mT := mT_in 881 (by decide +kernel) rfl
theorem mn_X10_209 : (RX10, 209, yX6_empty, "BorderQuestions") ∈ mNM := List.mem_of_getElem? (i := 50) rfl
theorem mn_X10_214 : (RX10, 214, yX6_add, "BorderQuestions") ∈ mNM := List.mem_of_getElem? (i := 51) rfl
set_option maxRecDepth 100000 in
theorem mk_L_78 : Cond.methodLink RL 78 yX10_can ∈ mT := mT_in 893 (by decide +kernel) rfl
theorem mn_X10_216 : (RX10, 216, yX2_canCount, "BorderQuestions") ∈ mNM := List.mem_of_getElem? (i := 52) rfl
set_option maxRecDepth 100000 in
theorem mk_X2_176 : Cond.methodLink RX2 176 yX2_fitsWith ∈ mT := mT_in 901 (by decide +kernel) rfl
theorem mn_X10_219 : (RX10, 219, yX2_canLeast, "BorderQuestions") ∈ mNM := List.mem_of_getElem? (i := 53) rfl
set_option maxRecDepth 100000 in
theorem mk_L_82 : Cond.methodLink RL 82 yX10_odds ∈ mT := mT_in 909 (by decide +kernel) rfl
set_option maxRecDepth 100000 in
theorem mk_X10_222 : Cond.methodLink RX10 222 yX10_isPart ∈ mT := mT_in 913 (by decide +kernel) rfl
theorem kl_X10_225 : Cond.constantLong RX10 225 (-9223372036854775808) ∈ mT := mT_in 916 (by decide +kernel) rfl
theorem mn_X10_227 : (RX10, 227, yX2_oddsAbove, "BorderQuestions") ∈ mNM := List.mem_of_getElem? (i := 54) rfl
set_option maxRecDepth 100000 in
theorem mk_X10_230 : Cond.methodLink RX10 230 yX10_lowest ∈ mT := mT_in 921 (by decide +kernel) rfl
set_option maxRecDepth 100000 in
theorem mk_X10_331 : Cond.methodLink RX10 331 yJ9_max_7cf53 ∈ mT := mT_in 924 (by decide +kernel) rfl
set_option maxRecDepth 100000 in
theorem mk_L_87 : Cond.methodLink RL 87 yX10_mean ∈ mT := mT_in 925 (by decide +kernel) rfl
theorem mn_X10_237 : (RX10, 237, yX9_knownCount, "BorderQuestions") ∈ mNM := List.mem_of_getElem? (i := 55) rfl
set_option maxRecDepth 100000 in
theorem mk_X9_90 : Cond.methodLink RX9 90 yX9_guardAt ∈ mT := mT_in 933 (by decide +kernel) rfl
set_option maxRecDepth 100000 in
theorem mk_X9_97 : Cond.methodLink RX9 97 yJ6_bitCount_0f7a4 ∈ mT := mT_in 934 (by decide +kernel) rfl
set_option maxRecDepth 100000 in
theorem mk_L_92 : Cond.methodLink RL 92 yX10_plan ∈ mT := mT_in 935 (by decide +kernel) rfl
set_option maxRecDepth 100000 in
theorem mk_X10_243 : Cond.methodLink RX10 243 yX10_isPlanned ∈ mT := mT_in 939 (by decide +kernel) rfl
set_option maxRecDepth 100000 in
theorem mk_L_96 : Cond.methodLink RL 96 yX10_ends ∈ mT := mT_in 943 (by decide +kernel) rfl
theorem mn_X10_250 : (RX10, 250, yX6_first, "BorderQuestions") ∈ mNM := List.mem_of_getElem? (i := 56) rfl
theorem mn_X10_253 : (RX10, 253, yX6_second, "BorderQuestions") ∈ mNM := List.mem_of_getElem? (i := 57) rfl
theorem mn_X10_256 : (RX10, 256, yX7_carryOut, "BorderQuestions") ∈ mNM := List.mem_of_getElem? (i := 58) rfl
set_option maxRecDepth 100000 in
theorem mk_L_100 : Cond.methodLink RL 100 yX10_book ∈ mT := mT_in 953 (by decide +kernel) rfl
set_option maxRecDepth 100000 in
theorem mk_L_104 : Cond.methodLink RL 104 yX10_looked ∈ mT := mT_in 957 (by decide +kernel) rfl
set_option maxRecDepth 100000 in
theorem mk_L_108 : Cond.methodLink RL 108 yX10_judge ∈ mT := mT_in 961 (by decide +kernel) rfl
set_option maxRecDepth 100000 in
theorem mk_X10_262 : Cond.methodLink RX10 262 yX10_tapeAt ∈ mT := mT_in 965 (by decide +kernel) rfl
theorem mn_X10_266 : (RX10, 266, yX8_holds, "BorderQuestions") ∈ mNM := List.mem_of_getElem? (i := 59) rfl
theorem mn_X10_274 : (RX10, 274, yX8_get, "BorderQuestions") ∈ mNM := List.mem_of_getElem? (i := 60) rfl
set_option maxRecDepth 100000 in
theorem mk_X8_37 : Cond.methodLink RX8 37 yX8_hasPlace ∈ mT := mT_in 977 (by decide +kernel) rfl
set_option maxRecDepth 100000 in
theorem mk_L_112 : Cond.methodLink RL 112 yX10_image ∈ mT := mT_in 981 (by decide +kernel) rfl
set_option maxRecDepth 100000 in
theorem mk_L_116 : Cond.methodLink RL 116 yX10_undo ∈ mT := mT_in 985 (by decide +kernel) rfl
set_option maxRecDepth 100000 in
theorem mk_L_120 : Cond.methodLink RL 120 yX10_act ∈ mT := mT_in 989 (by decide +kernel) rfl
theorem mn_X10_282 : (RX10, 282, yX0_forget, "BorderQuestions") ∈ mNM := List.mem_of_getElem? (i := 61) rfl
theorem mn_X10_285 : (RX10, 285, yX0_start, "BorderQuestions") ∈ mNM := List.mem_of_getElem? (i := 62) rfl
set_option maxRecDepth 100000 in
theorem mk_X0_41 : Cond.methodLink RX0 41 yX0_perform ∈ mT := mT_in 1001 (by decide +kernel) rfl
set_option maxRecDepth 100000 in
theorem mk_X0_48 : Cond.methodLink RX0 48 yX0_bodyFrom ∈ mT := mT_in 1005 (by decide +kernel) rfl
theorem fk_X0_45 : Cond.fieldLink RX0 45 "BorderQuestions$Acts" "BODIES" "[I" ∈ mT := mT_in 1008 (by decide +kernel) rfl
set_option maxRecDepth 100000 in
theorem mk_X0_18 : Cond.methodLink RX0 18 yX0_above ∈ mT := mT_in 1010 (by decide +kernel) rfl
theorem fk_X0_15 : Cond.fieldLink RX0 15 "BorderQuestions$Acts" "ABOVE" "[I" ∈ mT := mT_in 1013 (by decide +kernel) rfl
set_option maxRecDepth 100000 in
theorem mk_X0_52 : Cond.methodLink RX0 52 yX0_note ∈ mT := mT_in 1015 (by decide +kernel) rfl
set_option maxRecDepth 100000 in
theorem mk_X0_56 : Cond.methodLink RX0 56 yX0_run ∈ mT := mT_in 1019 (by decide +kernel) rfl
set_option maxRecDepth 100000 in
theorem mk_L_124 : Cond.methodLink RL 124 yX10_trace ∈ mT := mT_in 1023 (by decide +kernel) rfl
theorem mn_X10_289 : (RX10, 289, yX0_bodyAt, "BorderQuestions") ∈ mNM := List.mem_of_getElem? (i := 63) rfl
set_option maxRecDepth 100000 in
theorem mk_L_128 : Cond.methodLink RL 128 yX10_taken ∈ mT := mT_in 1031 (by decide +kernel) rfl
theorem mn_X10_292 : (RX10, 292, yX0_isUnder, "BorderQuestions") ∈ mNM := List.mem_of_getElem? (i := 64) rfl
set_option maxRecDepth 100000 in
theorem mk_L_132 : Cond.methodLink RL 132 yX10_count ∈ mT := mT_in 1038 (by decide +kernel) rfl
set_option maxRecDepth 100000 in
theorem mk_L_136 : Cond.methodLink RL 136 yX10_tape ∈ mT := mT_in 1042 (by decide +kernel) rfl
theorem mn_X10_307 : (RX10, 307, yX8_become, "BorderQuestions") ∈ mNM := List.mem_of_getElem? (i := 65) rfl
set_option maxRecDepth 100000 in
theorem mk_X8_19 : Cond.methodLink RX8 19 yJ9_min_7cf53 ∈ mT := mT_in 1050 (by decide +kernel) rfl
set_option maxRecDepth 100000 in
theorem mk_X8_25 : Cond.methodLink RX8 25 yJ9_max_7cf53 ∈ mT := mT_in 1051 (by decide +kernel) rfl
set_option maxRecDepth 100000 in
theorem mk_X8_31 : Cond.methodLink RX8 31 yJ7_fill_d0a16 ∈ mT := mT_in 1052 (by decide +kernel) rfl
set_option maxRecDepth 100000 in
theorem mk_L_142 : Cond.methodLink RL 142 yX10_item ∈ mT := mT_in 1055 (by decide +kernel) rfl
theorem mn_X10_311 : (RX10, 311, yX8_hasPlace, "BorderQuestions") ∈ mNM := List.mem_of_getElem? (i := 66) rfl
theorem mn_X10_314 : (RX10, 314, yX8_put, "BorderQuestions") ∈ mNM := List.mem_of_getElem? (i := 67) rfl
set_option maxRecDepth 100000 in
theorem mk_X8_41 : Cond.methodLink RX8 41 yX8_cut ∈ mT := mT_in 1064 (by decide +kernel) rfl
set_option maxRecDepth 100000 in
theorem mk_L_147 : Cond.methodLink RL 147 yX10_read ∈ mT := mT_in 1068 (by decide +kernel) rfl
set_option maxRecDepth 100000 in
theorem mk_L_152 : Cond.methodLink RL 152 yX10_shift ∈ mT := mT_in 1072 (by decide +kernel) rfl
theorem mn_X10_318 : (RX10, 318, yX8_hasRun, "BorderQuestions") ∈ mNM := List.mem_of_getElem? (i := 68) rfl
set_option maxRecDepth 100000 in
theorem mk_X10_325 : Cond.methodLink RX10 325 (⟨"java/lang/System", "arraycopy", "(Ljava/lang/Object;ILjava/lang/Object;II)V"⟩ : MethodName) ∈ mT := mT_in 1080 (by decide +kernel) rfl
theorem ck_L_10 : Cond.classLink RL 10 RX11 ∈ mT := mT_in 1081 (by decide +kernel) rfl
set_option maxRecDepth 100000 in
theorem mk_L_12 : Cond.methodLink RL 12 yX11_init ∈ mT := mT_in 1083 (by decide +kernel) rfl
set_option maxRecDepth 100000 in
theorem mk_X11_3 : Cond.methodLink RX11 3 (⟨"java/lang/Object", "<init>", "()V"⟩ : MethodName) ∈ mT := mT_in 1086 (by decide +kernel) rfl
theorem fk_X11_114 : Cond.fieldLink RX11 114 (TX11 0).1 (TX11 0).2.1 (TX11 0).2.2.1 ∈ mT := mT_in 1087 (by decide +kernel) rfl
theorem fk_X11_9 : Cond.fieldLink RX11 9 (TX11 1).1 (TX11 1).2.1 (TX11 1).2.2.1 ∈ mT := mT_in 1088 (by decide +kernel) rfl
theorem fk_X11_15 : Cond.fieldLink RX11 15 (TX11 2).1 (TX11 2).2.1 (TX11 2).2.2.1 ∈ mT := mT_in 1089 (by decide +kernel) rfl
theorem fk_X11_18 : Cond.fieldLink RX11 18 (TX11 3).1 (TX11 3).2.1 (TX11 3).2.2.1 ∈ mT := mT_in 1090 (by decide +kernel) rfl
theorem fk_X11_21 : Cond.fieldLink RX11 21 (TX11 4).1 (TX11 4).2.1 (TX11 4).2.2.1 ∈ mT := mT_in 1091 (by decide +kernel) rfl
theorem fk_X11_24 : Cond.fieldLink RX11 24 (TX11 5).1 (TX11 5).2.1 (TX11 5).2.2.1 ∈ mT := mT_in 1092 (by decide +kernel) rfl
theorem fk_X11_121 : Cond.fieldLink RX11 121 (TX11 6).1 (TX11 6).2.1 (TX11 6).2.2.1 ∈ mT := mT_in 1093 (by decide +kernel) rfl
theorem fk_X11_27 : Cond.fieldLink RX11 27 (TX11 7).1 (TX11 7).2.1 (TX11 7).2.2.1 ∈ mT := mT_in 1094 (by decide +kernel) rfl
theorem fk_X11_30 : Cond.fieldLink RX11 30 (TX11 8).1 (TX11 8).2.1 (TX11 8).2.2.1 ∈ mT := mT_in 1095 (by decide +kernel) rfl
theorem fk_X11_33 : Cond.fieldLink RX11 33 (TX11 9).1 (TX11 9).2.1 (TX11 9).2.2.1 ∈ mT := mT_in 1096 (by decide +kernel) rfl
theorem fk_X11_36 : Cond.fieldLink RX11 36 (TX11 10).1 (TX11 10).2.1 (TX11 10).2.2.1 ∈ mT := mT_in 1097 (by decide +kernel) rfl
theorem fk_X11_235 : Cond.fieldLink RX11 235 (TX11 11).1 (TX11 11).2.1 (TX11 11).2.2.1 ∈ mT := mT_in 1098 (by decide +kernel) rfl
theorem fk_X11_152 : Cond.fieldLink RX11 152 (TX11 12).1 (TX11 12).2.1 (TX11 12).2.2.1 ∈ mT := mT_in 1099 (by decide +kernel) rfl
theorem fk_X11_39 : Cond.fieldLink RX11 39 (TX11 13).1 (TX11 13).2.1 (TX11 13).2.2.1 ∈ mT := mT_in 1100 (by decide +kernel) rfl
theorem fk_X11_155 : Cond.fieldLink RX11 155 (TX11 14).1 (TX11 14).2.1 (TX11 14).2.2.1 ∈ mT := mT_in 1101 (by decide +kernel) rfl
theorem fk_X11_158 : Cond.fieldLink RX11 158 (TX11 15).1 (TX11 15).2.1 (TX11 15).2.2.1 ∈ mT := mT_in 1102 (by decide +kernel) rfl
theorem fk_X11_161 : Cond.fieldLink RX11 161 (TX11 16).1 (TX11 16).2.1 (TX11 16).2.2.1 ∈ mT := mT_in 1103 (by decide +kernel) rfl
theorem fk_X11_196 : Cond.fieldLink RX11 196 (TX11 17).1 (TX11 17).2.1 (TX11 17).2.2.1 ∈ mT := mT_in 1104 (by decide +kernel) rfl
theorem fk_X11_224 : Cond.fieldLink RX11 224 (TX11 18).1 (TX11 18).2.1 (TX11 18).2.2.1 ∈ mT := mT_in 1105 (by decide +kernel) rfl
theorem fk_X11_110 : Cond.fieldLink RX11 110 (TX11 19).1 (TX11 19).2.1 (TX11 19).2.2.1 ∈ mT := mT_in 1106 (by decide +kernel) rfl
theorem fk_X11_42 : Cond.fieldLink RX11 42 (TX11 20).1 (TX11 20).2.1 (TX11 20).2.2.1 ∈ mT := mT_in 1107 (by decide +kernel) rfl
theorem fk_X11_45 : Cond.fieldLink RX11 45 (TX11 21).1 (TX11 21).2.1 (TX11 21).2.2.1 ∈ mT := mT_in 1108 (by decide +kernel) rfl
theorem fk_X11_48 : Cond.fieldLink RX11 48 (TX11 22).1 (TX11 22).2.1 (TX11 22).2.2.1 ∈ mT := mT_in 1109 (by decide +kernel) rfl
theorem fk_X11_51 : Cond.fieldLink RX11 51 (TX11 23).1 (TX11 23).2.1 (TX11 23).2.2.1 ∈ mT := mT_in 1110 (by decide +kernel) rfl
theorem fk_X11_54 : Cond.fieldLink RX11 54 (TX11 24).1 (TX11 24).2.1 (TX11 24).2.2.1 ∈ mT := mT_in 1111 (by decide +kernel) rfl
theorem fk_X11_57 : Cond.fieldLink RX11 57 (TX11 25).1 (TX11 25).2.1 (TX11 25).2.2.1 ∈ mT := mT_in 1112 (by decide +kernel) rfl
theorem fk_X11_180 : Cond.fieldLink RX11 180 (TX11 26).1 (TX11 26).2.1 (TX11 26).2.2.1 ∈ mT := mT_in 1113 (by decide +kernel) rfl
theorem fk_X11_60 : Cond.fieldLink RX11 60 (TX11 27).1 (TX11 27).2.1 (TX11 27).2.2.1 ∈ mT := mT_in 1114 (by decide +kernel) rfl
theorem fk_X11_298 : Cond.fieldLink RX11 298 (TX11 28).1 (TX11 28).2.1 (TX11 28).2.2.1 ∈ mT := mT_in 1115 (by decide +kernel) rfl
theorem fk_X11_64 : Cond.fieldLink RX11 64 (TX11 29).1 (TX11 29).2.1 (TX11 29).2.2.1 ∈ mT := mT_in 1116 (by decide +kernel) rfl
theorem fk_X11_67 : Cond.fieldLink RX11 67 (TX11 30).1 (TX11 30).2.1 (TX11 30).2.2.1 ∈ mT := mT_in 1117 (by decide +kernel) rfl
theorem fk_X11_70 : Cond.fieldLink RX11 70 (TX11 31).1 (TX11 31).2.1 (TX11 31).2.2.1 ∈ mT := mT_in 1118 (by decide +kernel) rfl
theorem fk_X11_312 : Cond.fieldLink RX11 312 (TX11 32).1 (TX11 32).2.1 (TX11 32).2.2.1 ∈ mT := mT_in 1119 (by decide +kernel) rfl
theorem fk_X11_73 : Cond.fieldLink RX11 73 (TX11 33).1 (TX11 33).2.1 (TX11 33).2.2.1 ∈ mT := mT_in 1120 (by decide +kernel) rfl
theorem fk_X11_76 : Cond.fieldLink RX11 76 (TX11 34).1 (TX11 34).2.1 (TX11 34).2.2.1 ∈ mT := mT_in 1121 (by decide +kernel) rfl
theorem fk_X11_315 : Cond.fieldLink RX11 315 (TX11 35).1 (TX11 35).2.1 (TX11 35).2.2.1 ∈ mT := mT_in 1122 (by decide +kernel) rfl
theorem fk_X11_79 : Cond.fieldLink RX11 79 (TX11 36).1 (TX11 36).2.1 (TX11 36).2.2.1 ∈ mT := mT_in 1123 (by decide +kernel) rfl
theorem fk_X11_82 : Cond.fieldLink RX11 82 (TX11 37).1 (TX11 37).2.1 (TX11 37).2.2.1 ∈ mT := mT_in 1124 (by decide +kernel) rfl
theorem fk_X11_322 : Cond.fieldLink RX11 322 (TX11 38).1 (TX11 38).2.1 (TX11 38).2.2.1 ∈ mT := mT_in 1125 (by decide +kernel) rfl
theorem fk_X11_85 : Cond.fieldLink RX11 85 (TX11 39).1 (TX11 39).2.1 (TX11 39).2.2.1 ∈ mT := mT_in 1126 (by decide +kernel) rfl
theorem fk_X11_318 : Cond.fieldLink RX11 318 (TX11 40).1 (TX11 40).2.1 (TX11 40).2.2.1 ∈ mT := mT_in 1127 (by decide +kernel) rfl
theorem fk_X11_88 : Cond.fieldLink RX11 88 (TX11 41).1 (TX11 41).2.1 (TX11 41).2.2.1 ∈ mT := mT_in 1128 (by decide +kernel) rfl
theorem fk_X11_91 : Cond.fieldLink RX11 91 (TX11 42).1 (TX11 42).2.1 (TX11 42).2.2.1 ∈ mT := mT_in 1129 (by decide +kernel) rfl
theorem fk_X11_94 : Cond.fieldLink RX11 94 (TX11 43).1 (TX11 43).2.1 (TX11 43).2.2.1 ∈ mT := mT_in 1130 (by decide +kernel) rfl
theorem fk_X11_97 : Cond.fieldLink RX11 97 (TX11 44).1 (TX11 44).2.1 (TX11 44).2.2.1 ∈ mT := mT_in 1131 (by decide +kernel) rfl
theorem fk_X11_281 : Cond.fieldLink RX11 281 (TX11 45).1 (TX11 45).2.1 (TX11 45).2.2.1 ∈ mT := mT_in 1132 (by decide +kernel) rfl
theorem fk_X11_100 : Cond.fieldLink RX11 100 (TX11 46).1 (TX11 46).2.1 (TX11 46).2.2.1 ∈ mT := mT_in 1133 (by decide +kernel) rfl
theorem fk_X11_103 : Cond.fieldLink RX11 103 (TX11 47).1 (TX11 47).2.1 (TX11 47).2.2.1 ∈ mT := mT_in 1134 (by decide +kernel) rfl
theorem fk_X11_106 : Cond.fieldLink RX11 106 (TX11 48).1 (TX11 48).2.1 (TX11 48).2.2.1 ∈ mT := mT_in 1135 (by decide +kernel) rfl
theorem ac_boolean : Cond.arrayClass .boolean ∈ mT := mT_in 1235 (by decide +kernel) rfl
set_option maxRecDepth 100000 in
theorem mk_L_17 : Cond.methodLink RL 17 yX11_guard ∈ mT := mT_in 1236 (by decide +kernel) rfl
set_option maxRecDepth 100000 in
theorem mk_X11_117 : Cond.methodLink RX11 117 yX11_within ∈ mT := mT_in 1240 (by decide +kernel) rfl
set_option maxRecDepth 100000 in
theorem mk_X11_124 : Cond.methodLink RX11 124 yX11_areMatters ∈ mT := mT_in 1243 (by decide +kernel) rfl
set_option maxRecDepth 100000 in
theorem mk_L_22 : Cond.methodLink RL 22 yX11_of ∈ mT := mT_in 1246 (by decide +kernel) rfl
set_option maxRecDepth 100000 in
theorem mk_X11_128 : Cond.methodLink RX11 128 yX11_isOne ∈ mT := mT_in 1250 (by decide +kernel) rfl
set_option maxRecDepth 100000 in
theorem mk_X11_131 : Cond.methodLink RX11 131 yX11_isAsked ∈ mT := mT_in 1254 (by decide +kernel) rfl
set_option maxRecDepth 100000 in
theorem mk_X11_134 : Cond.methodLink RX11 134 yX11_wit ∈ mT := mT_in 1258 (by decide +kernel) rfl
set_option maxRecDepth 100000 in
theorem mk_X11_245 : Cond.methodLink RX11 245 yX11_sum ∈ mT := mT_in 1262 (by decide +kernel) rfl
set_option maxRecDepth 100000 in
theorem mk_X11_230 : Cond.methodLink RX11 230 yJ6_bitCount_0f7a4 ∈ mT := mT_in 1266 (by decide +kernel) rfl
set_option maxRecDepth 100000 in
theorem mk_X11_242 : Cond.methodLink RX11 242 yX11_isTrue ∈ mT := mT_in 1267 (by decide +kernel) rfl
set_option maxRecDepth 100000 in
theorem mk_X11_238 : Cond.methodLink RX11 238 yX11_letterOf ∈ mT := mT_in 1271 (by decide +kernel) rfl
set_option maxRecDepth 100000 in
theorem mk_X11_138 : Cond.methodLink RX11 138 yX11_study ∈ mT := mT_in 1275 (by decide +kernel) rfl
set_option maxRecDepth 100000 in
theorem mk_X11_248 : Cond.methodLink RX11 248 yX11_answers ∈ mT := mT_in 1279 (by decide +kernel) rfl
set_option maxRecDepth 100000 in
theorem mk_X11_141 : Cond.methodLink RX11 141 yX11_stumps ∈ mT := mT_in 1283 (by decide +kernel) rfl
set_option maxRecDepth 100000 in
theorem mk_X11_145 : Cond.methodLink RX11 145 yX11_knew ∈ mT := mT_in 1287 (by decide +kernel) rfl
set_option maxRecDepth 100000 in
theorem mk_X11_301 : Cond.methodLink RX11 301 yX11_isHeard ∈ mT := mT_in 1291 (by decide +kernel) rfl
set_option maxRecDepth 100000 in
theorem mk_L_26 : Cond.methodLink RL 26 yX11_question ∈ mT := mT_in 1295 (by decide +kernel) rfl
set_option maxRecDepth 100000 in
theorem mk_L_30 : Cond.methodLink RL 30 yX11_sack ∈ mT := mT_in 1299 (by decide +kernel) rfl
set_option maxRecDepth 100000 in
theorem mk_L_34 : Cond.methodLink RL 34 yX11_know ∈ mT := mT_in 1303 (by decide +kernel) rfl
set_option maxRecDepth 100000 in
theorem mk_L_38 : Cond.methodLink RL 38 yX11_tire ∈ mT := mT_in 1307 (by decide +kernel) rfl
set_option maxRecDepth 100000 in
theorem mk_L_42 : Cond.methodLink RL 42 yX11_bring ∈ mT := mT_in 1311 (by decide +kernel) rfl
set_option maxRecDepth 100000 in
theorem mk_L_46 : Cond.methodLink RL 46 yX11_ask ∈ mT := mT_in 1315 (by decide +kernel) rfl
set_option maxRecDepth 100000 in
theorem mk_X11_148 : Cond.methodLink RX11 148 yX11_asks ∈ mT := mT_in 1319 (by decide +kernel) rfl
set_option maxRecDepth 100000 in
theorem mk_X11_252 : Cond.methodLink RX11 252 yJ9_min_7cf53 ∈ mT := mT_in 1323 (by decide +kernel) rfl
set_option maxRecDepth 100000 in
theorem mk_X11_257 : Cond.methodLink RX11 257 yJ6_numberOfTrailingZeros_0f7a4 ∈ mT := mT_in 1324 (by decide +kernel) rfl
theorem kk_J6_264 : Cond.constant RJ6 264 (65536) ∈ mT := mT_in 1327 (by decide +kernel) rfl
set_option maxRecDepth 100000 in
theorem mk_L_50 : Cond.methodLink RL 50 yX11_row ∈ mT := mT_in 1328 (by decide +kernel) rfl
set_option maxRecDepth 100000 in
theorem mk_L_55 : Cond.methodLink RL 55 yX11_feed ∈ mT := mT_in 1332 (by decide +kernel) rfl
set_option maxRecDepth 100000 in
theorem mk_L_60 : Cond.methodLink RL 60 yX11_border ∈ mT := mT_in 1336 (by decide +kernel) rfl
set_option maxRecDepth 100000 in
theorem mk_X11_227 : Cond.methodLink RX11 227 yX11_isClause ∈ mT := mT_in 1340 (by decide +kernel) rfl
set_option maxRecDepth 100000 in
theorem mk_X11_216 : Cond.methodLink RX11 216 yX11_isAll ∈ mT := mT_in 1345 (by decide +kernel) rfl
set_option maxRecDepth 100000 in
theorem mk_X11_168 : Cond.methodLink RX11 168 yJ0_length_8abf5 ∈ mT := mT_in 1349 (by decide +kernel) rfl
set_option maxRecDepth 100000 in
theorem mk_X11_173 : Cond.methodLink RX11 173 yJ0_charAt_5068e ∈ mT := mT_in 1350 (by decide +kernel) rfl
set_option maxRecDepth 100000 in
theorem mk_X11_177 : Cond.methodLink RX11 177 yX11_is ∈ mT := mT_in 1351 (by decide +kernel) rfl
set_option maxRecDepth 100000 in
theorem mk_X11_190 : Cond.methodLink RX11 190 yX11_isNumber ∈ mT := mT_in 1357 (by decide +kernel) rfl
set_option maxRecDepth 100000 in
theorem mk_X11_164 : Cond.methodLink RX11 164 yX11_isDigit ∈ mT := mT_in 1361 (by decide +kernel) rfl
set_option maxRecDepth 100000 in
theorem mk_X11_205 : Cond.methodLink RX11 205 yX11_isE ∈ mT := mT_in 1365 (by decide +kernel) rfl
set_option maxRecDepth 100000 in
theorem mk_X11_211 : Cond.methodLink RX11 211 yX11_isT ∈ mT := mT_in 1369 (by decide +kernel) rfl
set_option maxRecDepth 100000 in
theorem mk_X11_202 : Cond.methodLink RX11 202 yX11_isF ∈ mT := mT_in 1373 (by decide +kernel) rfl
set_option maxRecDepth 100000 in
theorem mk_X11_199 : Cond.methodLink RX11 199 yX11_isOpened ∈ mT := mT_in 1377 (by decide +kernel) rfl
set_option maxRecDepth 100000 in
theorem mk_X11_193 : Cond.methodLink RX11 193 yX11_codes ∈ mT := mT_in 1381 (by decide +kernel) rfl
set_option maxRecDepth 100000 in
theorem mk_X11_208 : Cond.methodLink RX11 208 yX11_isTest ∈ mT := mT_in 1385 (by decide +kernel) rfl
set_option maxRecDepth 100000 in
theorem mk_X11_185 : Cond.methodLink RX11 185 yJ0_indexOf_0f7a4 ∈ mT := mT_in 1390 (by decide +kernel) rfl
set_option maxRecDepth 100000 in
theorem mk_J0_633 : Cond.methodLink RJ0 633 yJ0_indexOf_7cf53 ∈ mT := mT_in 1394 (by decide +kernel) rfl
set_option maxRecDepth 100000 in
theorem mk_J0_505 : Cond.methodLink RJ0 505 yJ0_length_8abf5 ∈ mT := mT_in 1398 (by decide +kernel) rfl
set_option maxRecDepth 100000 in
theorem mk_J0_637 : Cond.methodLink RJ0 637 yJ1_indexOf_4cfef ∈ mT := mT_in 1399 (by decide +kernel) rfl
set_option maxRecDepth 100000 in
theorem mk_J1_88 : Cond.methodLink RJ1 88 yJ1_canEncode_9a6ad ∈ mT := mT_in 1402 (by decide +kernel) rfl
set_option maxRecDepth 100000 in
theorem mk_J1_92 : Cond.methodLink RJ1 92 yJ9_max_7cf53 ∈ mT := mT_in 1405 (by decide +kernel) rfl
set_option maxRecDepth 100000 in
theorem mk_J1_38 : Cond.methodLink RJ1 38 yJ9_min_7cf53 ∈ mT := mT_in 1406 (by decide +kernel) rfl
set_option maxRecDepth 100000 in
theorem mk_J1_95 : Cond.methodLink RJ1 95 yJ1_indexOfChar_4cfef ∈ mT := mT_in 1407 (by decide +kernel) rfl
set_option maxRecDepth 100000 in
theorem mk_J0_640 : Cond.methodLink RJ0 640 yJ2_indexOf_4cfef ∈ mT := mT_in 1410 (by decide +kernel) rfl
set_option maxRecDepth 100000 in
theorem mk_J2_224 : Cond.methodLink RJ2 224 yJ9_max_7cf53 ∈ mT := mT_in 1413 (by decide +kernel) rfl
set_option maxRecDepth 100000 in
theorem mk_J2_183 : Cond.methodLink RJ2 183 yJ9_min_7cf53 ∈ mT := mT_in 1414 (by decide +kernel) rfl
theorem kk_J2_227 : Cond.constant RJ2 227 (65536) ∈ mT := mT_in 1415 (by decide +kernel) rfl
set_option maxRecDepth 100000 in
theorem mk_J2_228 : Cond.methodLink RJ2 228 yJ2_indexOfChar_4cfef ∈ mT := mT_in 1416 (by decide +kernel) rfl
set_option maxRecDepth 100000 in
theorem mk_J2_96 : Cond.methodLink RJ2 96 yJ2_checkBoundsBeginEnd_d044e ∈ mT := mT_in 1419 (by decide +kernel) rfl
set_option maxRecDepth 100000 in
theorem mk_J2_241 : Cond.methodLink RJ2 241 yJ0_checkBoundsBeginEnd_23922 ∈ mT := mT_in 1422 (by decide +kernel) rfl
set_option maxRecDepth 100000 in
theorem mk_J0_1062 : Cond.methodLink RJ0 1062 yJ3_checkFromToIndex_8c36e ∈ mT := mT_in 1425 (by decide +kernel) rfl
set_option maxRecDepth 100000 in
theorem mk_J2_244 : Cond.methodLink RJ2 244 yJ2_indexOfCharUnsafe_4cfef ∈ mT := mT_in 1428 (by decide +kernel) rfl
set_option maxRecDepth 100000 in
theorem mk_J2_232 : Cond.methodLink RJ2 232 yJ2_indexOfSupplementary_4cfef ∈ mT := mT_in 1431 (by decide +kernel) rfl
set_option maxRecDepth 100000 in
theorem mk_J2_164 : Cond.methodLink RJ2 164 yJ11_isValidCodePoint_9a6ad ∈ mT := mT_in 1434 (by decide +kernel) rfl
set_option maxRecDepth 100000 in
theorem mk_J2_157 : Cond.methodLink RJ2 157 yJ11_highSurrogate_5068e ∈ mT := mT_in 1437 (by decide +kernel) rfl
theorem kk_J11_110 : Cond.constant RJ11 110 (55232) ∈ mT := mT_in 1440 (by decide +kernel) rfl
set_option maxRecDepth 100000 in
theorem mk_J2_161 : Cond.methodLink RJ2 161 yJ11_lowSurrogate_5068e ∈ mT := mT_in 1441 (by decide +kernel) rfl
theorem kk_J11_76 : Cond.constant RJ11 76 (56320) ∈ mT := mT_in 1444 (by decide +kernel) rfl
set_option maxRecDepth 100000 in
theorem mk_L_64 : Cond.methodLink RL 64 yX11_told ∈ mT := mT_in 1446 (by decide +kernel) rfl
set_option maxRecDepth 100000 in
theorem mk_X11_266 : Cond.methodLink RX11 266 yX11_loaded ∈ mT := mT_in 1450 (by decide +kernel) rfl
set_option maxRecDepth 100000 in
theorem mk_X11_278 : Cond.methodLink RX11 278 yX11_loads ∈ mT := mT_in 1454 (by decide +kernel) rfl
set_option maxRecDepth 100000 in
theorem mk_X11_294 : Cond.methodLink RX11 294 yX11_tries ∈ mT := mT_in 1458 (by decide +kernel) rfl
set_option maxRecDepth 100000 in
theorem mk_X11_260 : Cond.methodLink RX11 260 yX11_restBy ∈ mT := mT_in 1462 (by decide +kernel) rfl
set_option maxRecDepth 100000 in
theorem mk_X11_269 : Cond.methodLink RX11 269 yX11_through ∈ mT := mT_in 1466 (by decide +kernel) rfl
set_option maxRecDepth 100000 in
theorem mk_X11_272 : Cond.methodLink RX11 272 yX11_areSo ∈ mT := mT_in 1470 (by decide +kernel) rfl
set_option maxRecDepth 100000 in
theorem mk_X11_275 : Cond.methodLink RX11 275 yX11_enough ∈ mT := mT_in 1474 (by decide +kernel) rfl
set_option maxRecDepth 100000 in
theorem mk_L_68 : Cond.methodLink RL 68 yX11_pass ∈ mT := mT_in 1478 (by decide +kernel) rfl
set_option maxRecDepth 100000 in
theorem mk_X11_284 : Cond.methodLink RX11 284 yX11_goesHour ∈ mT := mT_in 1482 (by decide +kernel) rfl
set_option maxRecDepth 100000 in
theorem mk_X11_263 : Cond.methodLink RX11 263 yJ9_max_7cf53 ∈ mT := mT_in 1486 (by decide +kernel) rfl
set_option maxRecDepth 100000 in
theorem mk_L_72 : Cond.methodLink RL 72 yX11_on ∈ mT := mT_in 1487 (by decide +kernel) rfl
set_option maxRecDepth 100000 in
theorem mk_X11_287 : Cond.methodLink RX11 287 yX11_keep ∈ mT := mT_in 1491 (by decide +kernel) rfl
set_option maxRecDepth 100000 in
theorem mk_X11_291 : Cond.methodLink RX11 291 yX11_again ∈ mT := mT_in 1495 (by decide +kernel) rfl
set_option maxRecDepth 100000 in
theorem mk_L_77 : Cond.methodLink RL 77 yX11_hear ∈ mT := mT_in 1499 (by decide +kernel) rfl
set_option maxRecDepth 100000 in
theorem mk_L_81 : Cond.methodLink RL 81 yX11_can ∈ mT := mT_in 1503 (by decide +kernel) rfl
set_option maxRecDepth 100000 in
theorem mk_L_86 : Cond.methodLink RL 86 yX11_odds ∈ mT := mT_in 1507 (by decide +kernel) rfl
theorem kl_X11_304 : Cond.constantLong RX11 304 (-9223372036854775808) ∈ mT := mT_in 1511 (by decide +kernel) rfl
theorem kl_X11_306 : Cond.constantLong RX11 306 (12) ∈ mT := mT_in 1512 (by decide +kernel) rfl
set_option maxRecDepth 100000 in
theorem mk_X11_308 : Cond.methodLink RX11 308 yX11_part ∈ mT := mT_in 1513 (by decide +kernel) rfl
set_option maxRecDepth 100000 in
theorem mk_L_91 : Cond.methodLink RL 91 yX11_mean ∈ mT := mT_in 1516 (by decide +kernel) rfl
set_option maxRecDepth 100000 in
theorem mk_L_95 : Cond.methodLink RL 95 yX11_plan ∈ mT := mT_in 1520 (by decide +kernel) rfl
set_option maxRecDepth 100000 in
theorem mk_L_99 : Cond.methodLink RL 99 yX11_ends ∈ mT := mT_in 1524 (by decide +kernel) rfl
set_option maxRecDepth 100000 in
theorem mk_L_103 : Cond.methodLink RL 103 yX11_book ∈ mT := mT_in 1528 (by decide +kernel) rfl
set_option maxRecDepth 100000 in
theorem mk_L_107 : Cond.methodLink RL 107 yX11_looked ∈ mT := mT_in 1532 (by decide +kernel) rfl
set_option maxRecDepth 100000 in
theorem mk_L_111 : Cond.methodLink RL 111 yX11_judge ∈ mT := mT_in 1536 (by decide +kernel) rfl
set_option maxRecDepth 100000 in
theorem mk_L_115 : Cond.methodLink RL 115 yX11_image ∈ mT := mT_in 1540 (by decide +kernel) rfl
set_option maxRecDepth 100000 in
theorem mk_L_119 : Cond.methodLink RL 119 yX11_undo ∈ mT := mT_in 1544 (by decide +kernel) rfl
set_option maxRecDepth 100000 in
theorem mk_L_123 : Cond.methodLink RL 123 yX11_act ∈ mT := mT_in 1548 (by decide +kernel) rfl
set_option maxRecDepth 100000 in
theorem mk_X11_329 : Cond.methodLink RX11 329 yX11_listens ∈ mT := mT_in 1552 (by decide +kernel) rfl
set_option maxRecDepth 100000 in
theorem mk_X11_325 : Cond.methodLink RX11 325 yX11_ran ∈ mT := mT_in 1556 (by decide +kernel) rfl
set_option maxRecDepth 100000 in
theorem mk_X11_332 : Cond.methodLink RX11 332 yX11_above ∈ mT := mT_in 1560 (by decide +kernel) rfl
set_option maxRecDepth 100000 in
theorem mk_X11_335 : Cond.methodLink RX11 335 yX11_nods ∈ mT := mT_in 1563 (by decide +kernel) rfl
set_option maxRecDepth 100000 in
theorem mk_X11_338 : Cond.methodLink RX11 338 yX11_tells ∈ mT := mT_in 1567 (by decide +kernel) rfl
set_option maxRecDepth 100000 in
theorem mk_L_127 : Cond.methodLink RL 127 yX11_trace ∈ mT := mT_in 1571 (by decide +kernel) rfl
set_option maxRecDepth 100000 in
theorem mk_L_131 : Cond.methodLink RL 131 yX11_taken ∈ mT := mT_in 1575 (by decide +kernel) rfl
set_option maxRecDepth 100000 in
theorem mk_L_135 : Cond.methodLink RL 135 yX11_count ∈ mT := mT_in 1579 (by decide +kernel) rfl
set_option maxRecDepth 100000 in
theorem mk_L_139 : Cond.methodLink RL 139 yX11_tape ∈ mT := mT_in 1583 (by decide +kernel) rfl
set_option maxRecDepth 100000 in
theorem mk_X11_341 : Cond.methodLink RX11 341 yX11_isTape ∈ mT := mT_in 1587 (by decide +kernel) rfl
set_option maxRecDepth 100000 in
theorem mk_L_146 : Cond.methodLink RL 146 yX11_item ∈ mT := mT_in 1590 (by decide +kernel) rfl
set_option maxRecDepth 100000 in
theorem mk_X11_344 : Cond.methodLink RX11 344 yX11_kept ∈ mT := mT_in 1594 (by decide +kernel) rfl
set_option maxRecDepth 100000 in
theorem mk_L_151 : Cond.methodLink RL 151 yX11_read ∈ mT := mT_in 1597 (by decide +kernel) rfl
set_option maxRecDepth 100000 in
theorem mk_L_156 : Cond.methodLink RL 156 yX11_shift ∈ mT := mT_in 1601 (by decide +kernel) rfl
theorem kl_L_140 : Cond.constantLong RL 140 (4294967295) ∈ mT := mT_in 1605 (by decide +kernel) rfl
theorem fk_J0_9 : Cond.fieldLink RJ0 9 "java/lang/String" "value" "[B" ∈ mT := mT_in 1606 (by decide +kernel) rfl
theorem fk_J0_15 : Cond.fieldLink RJ0 15 "java/lang/String" "coder" "B" ∈ mT := mT_in 1607 (by decide +kernel) rfl
theorem in_0 : Cond.instantiable RX0 5 ∈ mT := mT_in 393 (by decide +kernel) rfl
theorem ii_0 : Cond.initialized RX0 ∈ mT := mT_in 135 (by decide +kernel) rfl
theorem in_1 : Cond.instantiable RX1 4 ∈ mT := mT_in 314 (by decide +kernel) rfl
theorem ii_1 : Cond.initialized RX1 ∈ mT := mT_in 133 (by decide +kernel) rfl
theorem in_2 : Cond.instantiable RX2 7 ∈ mT := mT_in 301 (by decide +kernel) rfl
theorem ii_2 : Cond.initialized RX2 ∈ mT := mT_in 131 (by decide +kernel) rfl
theorem in_3 : Cond.instantiable RX3 5 ∈ mT := mT_in 189 (by decide +kernel) rfl
theorem ii_3 : Cond.initialized RX3 ∈ mT := mT_in 129 (by decide +kernel) rfl
theorem in_4 : Cond.instantiable RX4 4 ∈ mT := mT_in 226 (by decide +kernel) rfl
theorem ii_4 : Cond.initialized RX4 ∈ mT := mT_in 130 (by decide +kernel) rfl
theorem in_5 : Cond.instantiable RX5 6 ∈ mT := mT_in 366 (by decide +kernel) rfl
theorem ii_5 : Cond.initialized RX5 ∈ mT := mT_in 134 (by decide +kernel) rfl
theorem in_6 : Cond.instantiable RX6 3 ∈ mT := mT_in 165 (by decide +kernel) rfl
theorem ii_6 : Cond.initialized RX6 ∈ mT := mT_in 127 (by decide +kernel) rfl
theorem in_7 : Cond.instantiable RX7 2 ∈ mT := mT_in 307 (by decide +kernel) rfl
theorem ii_7 : Cond.initialized RX7 ∈ mT := mT_in 132 (by decide +kernel) rfl
theorem in_8 : Cond.instantiable RX8 3 ∈ mT := mT_in 417 (by decide +kernel) rfl
theorem ii_8 : Cond.initialized RX8 ∈ mT := mT_in 136 (by decide +kernel) rfl
theorem in_9 : Cond.instantiable RX9 9 ∈ mT := mT_in 155 (by decide +kernel) rfl
theorem ii_9 : Cond.initialized RX9 ∈ mT := mT_in 126 (by decide +kernel) rfl
theorem in_10 : Cond.instantiable RX10 9 ∈ mT := mT_in 147 (by decide +kernel) rfl
theorem ii_10 : Cond.initialized RX10 ∈ mT := mT_in 125 (by decide +kernel) rfl
theorem in_11 : Cond.instantiable RX11 49 ∈ mT := mT_in 1082 (by decide +kernel) rfl
theorem ii_11 : Cond.initialized RX11 ∈ mT := mT_in 137 (by decide +kernel) rfl
theorem oi_w : Cond.instanceMethod Lib.objectInit ∈ mT := mT_in 152 (by decide +kernel) rfl
theorem oc_w : Cond.code Lib.objectInit ⟨#[0xb1]⟩ 1 none ∈ mT := mT_in 153 rfl rfl
