theorem ob_0 : hs_OB 0 8 [3, 8, 13, 40, 44, 52, 56, 64, 68] := ⟨by decide, rfl⟩
theorem ob_1 : hs_OB 1 6 [4, 5, 6, 7, 0, 0, 0, 0] := ⟨by decide, rfl⟩
theorem ai_2 : hs_AI 2 5 := ⟨by decide, rfl⟩
theorem ai_3 : hs_AI 3 5 := ⟨by decide, rfl⟩
theorem ai_4 : hs_AI 4 6 := ⟨by decide, rfl⟩
theorem ai_5 : hs_AI 5 36 := ⟨by decide, rfl⟩
theorem ob_6 : hs_OB 6 6 [9, 10, 11, 12, 0, 0, 0, 0] := ⟨by decide, rfl⟩
theorem ai_7 : hs_AI 7 5 := ⟨by decide, rfl⟩
theorem ai_8 : hs_AI 8 5 := ⟨by decide, rfl⟩
theorem ai_9 : hs_AI 9 6 := ⟨by decide, rfl⟩
theorem ai_10 : hs_AI 10 36 := ⟨by decide, rfl⟩
theorem ob_11 : hs_OB 11 7 [14, 0, 0] := ⟨by decide, rfl⟩
theorem ar_12 : hs_AR 12 5 := ⟨by decide, rfl⟩
theorem ob_13 : hs_OB 13 6 [16, 17, 18, 19, 0, 0, 0, 0] := ⟨by decide, rfl⟩
theorem ai_14 : hs_AI 14 5 := ⟨by decide, rfl⟩
theorem ai_15 : hs_AI 15 5 := ⟨by decide, rfl⟩
theorem ai_16 : hs_AI 16 6 := ⟨by decide, rfl⟩
theorem ai_17 : hs_AI 17 36 := ⟨by decide, rfl⟩
theorem ob_18 : hs_OB 18 6 [21, 22, 23, 24, 0, 0, 0, 0] := ⟨by decide, rfl⟩
theorem ai_19 : hs_AI 19 5 := ⟨by decide, rfl⟩
theorem ai_20 : hs_AI 20 5 := ⟨by decide, rfl⟩
theorem ai_21 : hs_AI 21 6 := ⟨by decide, rfl⟩
theorem ai_22 : hs_AI 22 36 := ⟨by decide, rfl⟩
theorem ob_23 : hs_OB 23 6 [26, 27, 28, 29, 0, 0, 0, 0] := ⟨by decide, rfl⟩
theorem ai_24 : hs_AI 24 5 := ⟨by decide, rfl⟩
theorem ai_25 : hs_AI 25 5 := ⟨by decide, rfl⟩
theorem ai_26 : hs_AI 26 6 := ⟨by decide, rfl⟩
theorem ai_27 : hs_AI 27 36 := ⟨by decide, rfl⟩
theorem ob_28 : hs_OB 28 6 [31, 32, 33, 34, 0, 0, 0, 0] := ⟨by decide, rfl⟩
theorem ai_29 : hs_AI 29 5 := ⟨by decide, rfl⟩
theorem ai_30 : hs_AI 30 5 := ⟨by decide, rfl⟩
theorem ai_31 : hs_AI 31 6 := ⟨by decide, rfl⟩
theorem ai_32 : hs_AI 32 36 := ⟨by decide, rfl⟩
theorem ob_33 : hs_OB 33 6 [36, 37, 38, 39, 0, 0, 0, 0] := ⟨by decide, rfl⟩
theorem ai_34 : hs_AI 34 5 := ⟨by decide, rfl⟩
theorem ai_35 : hs_AI 35 5 := ⟨by decide, rfl⟩
theorem ai_36 : hs_AI 36 6 := ⟨by decide, rfl⟩
theorem ai_37 : hs_AI 37 36 := ⟨by decide, rfl⟩
theorem ob_38 : hs_OB 38 1 [41, 42, 43, 0, 0, 0, 0] := ⟨by decide, rfl⟩
theorem ai_39 : hs_AI 39 150 := ⟨by decide, rfl⟩
theorem ai_40 : hs_AI 40 150 := ⟨by decide, rfl⟩
theorem ai_41 : hs_AI 41 4096 := ⟨by decide, rfl⟩
theorem ob_42 : hs_OB 42 0 [45, 46, 47, 48, 49, 50, 51, 0, 0, 0] := ⟨by decide, rfl⟩
theorem ai_43 : hs_AI 43 6 := ⟨by decide, rfl⟩
theorem ai_44 : hs_AI 44 6 := ⟨by decide, rfl⟩
theorem ai_45 : hs_AI 45 6 := ⟨by decide, rfl⟩
theorem ai_46 : hs_AI 46 6 := ⟨by decide, rfl⟩
theorem ai_47 : hs_AI 47 36 := ⟨by decide, rfl⟩
theorem ai_48 : hs_AI 48 36 := ⟨by decide, rfl⟩
theorem ai_49 : hs_AI 49 6 := ⟨by decide, rfl⟩
theorem ob_50 : hs_OB 50 2 [53, 54, 55] := ⟨by decide, rfl⟩
theorem ai_51 : hs_AI 51 6 := ⟨by decide, rfl⟩
theorem ai_52 : hs_AI 52 6 := ⟨by decide, rfl⟩
theorem ai_53 : hs_AI 53 6 := ⟨by decide, rfl⟩
theorem ob_54 : hs_OB 54 5 [57, 58, 59, 60, 61, 0, 0] := ⟨by decide, rfl⟩
theorem ai_55 : hs_AI 55 42 := ⟨by decide, rfl⟩
theorem ai_56 : hs_AI 56 36 := ⟨by decide, rfl⟩
theorem ai_57 : hs_AI 57 6 := ⟨by decide, rfl⟩
theorem ai_58 : hs_AI 58 6 := ⟨by decide, rfl⟩
theorem ob_59 : hs_OB 59 3 [62, 63] := ⟨by decide, rfl⟩
theorem ai_60 : hs_AI 60 384 := ⟨by decide, rfl⟩
theorem ai_61 : hs_AI 61 36 := ⟨by decide, rfl⟩
theorem ob_62 : hs_OB 62 4 [65, 66, 67, 0, 0, 0] := ⟨by decide, rfl⟩
theorem ai_63 : hs_AI 63 120 := ⟨by decide, rfl⟩
theorem ai_64 : hs_AI 64 40 := ⟨by decide, rfl⟩
theorem ai_65 : hs_AI 65 160 := ⟨by decide, rfl⟩
theorem ai_66 : hs_AI 66 4 := ⟨by decide, rfl⟩
theorem ob_67 : hs_OB 67 9 [70, 71, 72, 0, 73, 0, 0, 74, 75, 0, 76, 77, 78, 79, 80, 81, 82, 83, 0, 0, 0, 0, 84, 85, 1] := ⟨by decide, rfl⟩
theorem ai_68 : hs_AI 68 66 := ⟨by decide, rfl⟩
theorem ai_69 : hs_AI 69 66 := ⟨by decide, rfl⟩
theorem ai_70 : hs_AI 70 330 := ⟨by decide, rfl⟩
theorem ai_71 : hs_AI 71 4 := ⟨by decide, rfl⟩
theorem ai_72 : hs_AI 72 151 := ⟨by decide, rfl⟩
theorem ai_73 : hs_AI 73 906 := ⟨by decide, rfl⟩
theorem ai_74 : hs_AI 74 150 := ⟨by decide, rfl⟩
theorem ai_75 : hs_AI 75 150 := ⟨by decide, rfl⟩
theorem ai_76 : hs_AI 76 6 := ⟨by decide, rfl⟩
theorem ai_77 : hs_AI 77 6 := ⟨by decide, rfl⟩
theorem ai_78 : hs_AI 78 6 := ⟨by decide, rfl⟩
theorem al_79 : hs_AL 79 3 := ⟨by decide, rfl⟩
theorem ai_80 : hs_AI 80 6 := ⟨by decide, rfl⟩
theorem ai_81 : hs_AI 81 120 := ⟨by decide, rfl⟩
theorem ai_82 : hs_AI 82 50 := ⟨by decide, rfl⟩
theorem ai_83 : hs_AI 83 200 := ⟨by decide, rfl⟩
def hs_IsS (s : Nat) : Prop := hs_OB s 6 [s + 1 + 2, s + 2 + 2, s + 3 + 2, s + 4 + 2, 0, 0, 0, 0] ∧ hs_AI (s + 1) 5 ∧ hs_AI (s + 2) 5 ∧ hs_AI (s + 3) 6 ∧ hs_AI (s + 4) 36
theorem is_1 : hs_IsS 1 := ⟨ob_1, ai_2, ai_3, ai_4, ai_5⟩
theorem is_6 : hs_IsS 6 := ⟨ob_6, ai_7, ai_8, ai_9, ai_10⟩
theorem is_13 : hs_IsS 13 := ⟨ob_13, ai_14, ai_15, ai_16, ai_17⟩
theorem is_18 : hs_IsS 18 := ⟨ob_18, ai_19, ai_20, ai_21, ai_22⟩
theorem is_23 : hs_IsS 23 := ⟨ob_23, ai_24, ai_25, ai_26, ai_27⟩
theorem is_28 : hs_IsS 28 := ⟨ob_28, ai_29, ai_30, ai_31, ai_32⟩
theorem is_33 : hs_IsS 33 := ⟨ob_33, ai_34, ai_35, ai_36, ai_37⟩
theorem is_kept {j : Nat} (h : j < 5) : hs_IsS (13 + 5 * j) := by
  rcases (show j = 0 ∨ j = 1 ∨ j = 2 ∨ j = 3 ∨ j = 4 by omega) with rfl | rfl | rfl | rfl | rfl
  · exact is_13
  · exact is_18
  · exact is_23
  · exact is_28
  · exact is_33
theorem inX0 : ∀ w ∈ u_ws RX0 TX0 10, w ∈ hs_tbl := by
  have h : u_ws RX0 TX0 10 = [245, 247, 249, 251, 253, 255, 257, 259, 261, 263].filterMap (fun i => lw_tbl[i]?) := by decide +kernel
  have g : (u_ws RX0 TX0 10).all goodWord = true := by decide +kernel
  intro w hw
  refine List.mem_filter.mpr ⟨?_, List.all_eq_true.mp g w hw⟩
  rw [h] at hw
  obtain ⟨i, -, hi⟩ := List.mem_filterMap.mp hw
  exact List.mem_of_getElem? hi
theorem inX1 : ∀ w ∈ u_ws RX1 TX1 7, w ∈ hs_tbl := by
  have h : u_ws RX1 TX1 7 = [195, 197, 199, 201, 203, 205, 207].filterMap (fun i => lw_tbl[i]?) := by decide +kernel
  have g : (u_ws RX1 TX1 7).all goodWord = true := by decide +kernel
  intro w hw
  refine List.mem_filter.mpr ⟨?_, List.all_eq_true.mp g w hw⟩
  rw [h] at hw
  obtain ⟨i, -, hi⟩ := List.mem_filterMap.mp hw
  exact List.mem_of_getElem? hi
theorem inX2 : ∀ w ∈ u_ws RX2 TX2 3, w ∈ hs_tbl := by
  have h : u_ws RX2 TX2 3 = [276, 278, 280].filterMap (fun i => lw_tbl[i]?) := by decide +kernel
  have g : (u_ws RX2 TX2 3).all goodWord = true := by decide +kernel
  intro w hw
  refine List.mem_filter.mpr ⟨?_, List.all_eq_true.mp g w hw⟩
  rw [h] at hw
  obtain ⟨i, -, hi⟩ := List.mem_filterMap.mp hw
  exact List.mem_of_getElem? hi
theorem inX3 : ∀ w ∈ u_ws RX3 TX3 2, w ∈ hs_tbl := by
  have h : u_ws RX3 TX3 2 = [297, 299].filterMap (fun i => lw_tbl[i]?) := by decide +kernel
  have g : (u_ws RX3 TX3 2).all goodWord = true := by decide +kernel
  intro w hw
  refine List.mem_filter.mpr ⟨?_, List.all_eq_true.mp g w hw⟩
  rw [h] at hw
  obtain ⟨i, -, hi⟩ := List.mem_filterMap.mp hw
  exact List.mem_of_getElem? hi
theorem inX4 : ∀ w ∈ u_ws RX4 TX4 6, w ∈ hs_tbl := by
  have h : u_ws RX4 TX4 6 = [341, 343, 345, 347, 349, 351].filterMap (fun i => lw_tbl[i]?) := by decide +kernel
  have g : (u_ws RX4 TX4 6).all goodWord = true := by decide +kernel
  intro w hw
  refine List.mem_filter.mpr ⟨?_, List.all_eq_true.mp g w hw⟩
  rw [h] at hw
  obtain ⟨i, -, hi⟩ := List.mem_filterMap.mp hw
  exact List.mem_of_getElem? hi
theorem inX5 : ∀ w ∈ u_ws RX5 TX5 7, w ∈ hs_tbl := by
  have h : u_ws RX5 TX5 7 = [312, 314, 316, 318, 320, 322, 324].filterMap (fun i => lw_tbl[i]?) := by decide +kernel
  have g : (u_ws RX5 TX5 7).all goodWord = true := by decide +kernel
  intro w hw
  refine List.mem_filter.mpr ⟨?_, List.all_eq_true.mp g w hw⟩
  rw [h] at hw
  obtain ⟨i, -, hi⟩ := List.mem_filterMap.mp hw
  exact List.mem_of_getElem? hi
theorem inX6 : ∀ w ∈ u_ws RX6 TX6 8, w ∈ hs_tbl := by
  have h : u_ws RX6 TX6 8 = [142, 144, 146, 148, 150, 152, 154, 156].filterMap (fun i => lw_tbl[i]?) := by decide +kernel
  have g : (u_ws RX6 TX6 8).all goodWord = true := by decide +kernel
  intro w hw
  refine List.mem_filter.mpr ⟨?_, List.all_eq_true.mp g w hw⟩
  rw [h] at hw
  obtain ⟨i, -, hi⟩ := List.mem_filterMap.mp hw
  exact List.mem_of_getElem? hi
theorem inX7 : ∀ w ∈ u_ws RX7 TX7 3, w ∈ hs_tbl := by
  have h : u_ws RX7 TX7 3 = [173, 175, 177].filterMap (fun i => lw_tbl[i]?) := by decide +kernel
  have g : (u_ws RX7 TX7 3).all goodWord = true := by decide +kernel
  intro w hw
  refine List.mem_filter.mpr ⟨?_, List.all_eq_true.mp g w hw⟩
  rw [h] at hw
  obtain ⟨i, -, hi⟩ := List.mem_filterMap.mp hw
  exact List.mem_of_getElem? hi
theorem inX8 : ∀ w ∈ u_ws RX8 TX8 9, w ∈ hs_tbl := by
  have h : u_ws RX8 TX8 9 = [363, 365, 367, 369, 371, 373, 375, 377, 379].filterMap (fun i => lw_tbl[i]?) := by decide +kernel
  have g : (u_ws RX8 TX8 9).all goodWord = true := by decide +kernel
  intro w hw
  refine List.mem_filter.mpr ⟨?_, List.all_eq_true.mp g w hw⟩
  rw [h] at hw
  obtain ⟨i, -, hi⟩ := List.mem_filterMap.mp hw
  exact List.mem_of_getElem? hi
theorem inX9 : ∀ w ∈ u_ws RX9 TX9 25, w ∈ hs_tbl := by
  have h : u_ws RX9 TX9 25 = [865, 867, 869, 871, 873, 875, 877, 879, 881, 883, 885, 887, 889, 891, 893, 895, 897, 899, 901, 903, 905, 907, 909, 911, 913].filterMap (fun i => lw_tbl[i]?) := by decide +kernel
  have g : (u_ws RX9 TX9 25).all goodWord = true := by decide +kernel
  intro w hw
  refine List.mem_filter.mpr ⟨?_, List.all_eq_true.mp g w hw⟩
  rw [h] at hw
  obtain ⟨i, -, hi⟩ := List.mem_filterMap.mp hw
  exact List.mem_of_getElem? hi
theorem mt_0 : Cond.fieldLink "UnitTurns" (12 : Nat) "UnitTurns" "current" "LUnitTurns$Setup;" ∈ hs_tbl := List.mem_filter.mpr ⟨List.mem_of_getElem? (i := 354) (by decide +kernel), by decide +kernel⟩
theorem fl_X8_12 : hs_FL RX8 12 8 0 := ⟨RX8, TX8, 9, tyX8, rfl, by decide, mt_0, inX8, tyX8_ok, nmX8⟩
theorem mt_1 : Cond.fieldLink "UnitTurns" (16 : Nat) "UnitTurns" "draft" "LUnitTurns$Setup;" ∈ hs_tbl := List.mem_filter.mpr ⟨List.mem_of_getElem? (i := 355) (by decide +kernel), by decide +kernel⟩
theorem fl_X8_16 : hs_FL RX8 16 8 1 := ⟨RX8, TX8, 9, tyX8, rfl, by decide, mt_1, inX8, tyX8_ok, nmX8⟩
theorem mt_2 : Cond.fieldLink "UnitTurns" (22 : Nat) "UnitTurns" "trail" "LUnitTurns$Trail;" ∈ hs_tbl := List.mem_filter.mpr ⟨List.mem_of_getElem? (i := 356) (by decide +kernel), by decide +kernel⟩
theorem fl_X8_22 : hs_FL RX8 22 8 2 := ⟨RX8, TX8, 9, tyX8, rfl, by decide, mt_2, inX8, tyX8_ok, nmX8⟩
theorem mt_3 : Cond.fieldLink "UnitTurns" (29 : Nat) "UnitTurns" "chart" "LUnitTurns$Chart;" ∈ hs_tbl := List.mem_filter.mpr ⟨List.mem_of_getElem? (i := 357) (by decide +kernel), by decide +kernel⟩
theorem fl_X8_29 : hs_FL RX8 29 8 3 := ⟨RX8, TX8, 9, tyX8, rfl, by decide, mt_3, inX8, tyX8_ok, nmX8⟩
theorem mt_4 : Cond.fieldLink "UnitTurns" (36 : Nat) "UnitTurns" "block" "LUnitTurns$Block;" ∈ hs_tbl := List.mem_filter.mpr ⟨List.mem_of_getElem? (i := 358) (by decide +kernel), by decide +kernel⟩
theorem fl_X8_36 : hs_FL RX8 36 8 4 := ⟨RX8, TX8, 9, tyX8, rfl, by decide, mt_4, inX8, tyX8_ok, nmX8⟩
theorem mt_5 : Cond.fieldLink "UnitTurns" (43 : Nat) "UnitTurns" "ranks" "LUnitTurns$Ranks;" ∈ hs_tbl := List.mem_filter.mpr ⟨List.mem_of_getElem? (i := 359) (by decide +kernel), by decide +kernel⟩
theorem fl_X8_43 : hs_FL RX8 43 8 5 := ⟨RX8, TX8, 9, tyX8, rfl, by decide, mt_5, inX8, tyX8_ok, nmX8⟩
theorem mt_6 : Cond.fieldLink "UnitTurns" (50 : Nat) "UnitTurns" "search" "LUnitTurns$Search;" ∈ hs_tbl := List.mem_filter.mpr ⟨List.mem_of_getElem? (i := 360) (by decide +kernel), by decide +kernel⟩
theorem fl_X8_50 : hs_FL RX8 50 8 6 := ⟨RX8, TX8, 9, tyX8, rfl, by decide, mt_6, inX8, tyX8_ok, nmX8⟩
theorem mt_7 : Cond.fieldLink "UnitTurns" (57 : Nat) "UnitTurns" "script" "LUnitTurns$Script;" ∈ hs_tbl := List.mem_filter.mpr ⟨List.mem_of_getElem? (i := 361) (by decide +kernel), by decide +kernel⟩
theorem fl_X8_57 : hs_FL RX8 57 8 7 := ⟨RX8, TX8, 9, tyX8, rfl, by decide, mt_7, inX8, tyX8_ok, nmX8⟩
theorem mt_8 : Cond.fieldLink "UnitTurns" (61 : Nat) "UnitTurns" "refusals" "[I" ∈ hs_tbl := List.mem_filter.mpr ⟨List.mem_of_getElem? (i := 362) (by decide +kernel), by decide +kernel⟩
theorem fl_X8_61 : hs_FL RX8 61 8 8 := ⟨RX8, TX8, 9, tyX8, rfl, by decide, mt_8, inX8, tyX8_ok, nmX8⟩
theorem mt_9 : Cond.fieldLink "UnitTurns" (98 : Nat) "UnitTurns$Setup" "kinds" "I" ∈ hs_tbl := List.mem_filter.mpr ⟨List.mem_of_getElem? (i := 132) (by decide +kernel), by decide +kernel⟩
theorem fl_X8_98 : hs_FL RX8 98 6 4 := ⟨RX6, TX6, 8, tyX6, rfl, by decide, mt_9, inX6, tyX6_ok, nmX6⟩
theorem mt_10 : Cond.fieldLink "UnitTurns" (102 : Nat) "UnitTurns$Chart" "tooMany" "Z" ∈ hs_tbl := List.mem_filter.mpr ⟨List.mem_of_getElem? (i := 192) (by decide +kernel), by decide +kernel⟩
theorem fl_X8_102 : hs_FL RX8 102 1 5 := ⟨RX1, TX1, 7, tyX1, rfl, by decide, mt_10, inX1, tyX1_ok, nmX1⟩
theorem mt_11 : Cond.fieldLink "UnitTurns" (143 : Nat) "UnitTurns$Search" "length" "I" ∈ hs_tbl := List.mem_filter.mpr ⟨List.mem_of_getElem? (i := 309) (by decide +kernel), by decide +kernel⟩
theorem fl_X8_143 : hs_FL RX8 143 5 5 := ⟨RX5, TX5, 7, tyX5, rfl, by decide, mt_11, inX5, tyX5_ok, nmX5⟩
theorem mt_12 : Cond.fieldLink "UnitTurns" (146 : Nat) "UnitTurns$Search" "turns" "[I" ∈ hs_tbl := List.mem_filter.mpr ⟨List.mem_of_getElem? (i := 306) (by decide +kernel), by decide +kernel⟩
theorem fl_X8_146 : hs_FL RX8 146 5 3 := ⟨RX5, TX5, 7, tyX5, rfl, by decide, mt_12, inX5, tyX5_ok, nmX5⟩
theorem mt_13 : Cond.fieldLink "UnitTurns" (152 : Nat) "UnitTurns$Ranks" "turns" "[I" ∈ hs_tbl := List.mem_filter.mpr ⟨List.mem_of_getElem? (i := 273) (by decide +kernel), by decide +kernel⟩
theorem fl_X8_152 : hs_FL RX8 152 2 0 := ⟨RX2, TX2, 3, tyX2, rfl, by decide, mt_13, inX2, tyX2_ok, nmX2⟩
theorem mt_14 : Cond.fieldLink "UnitTurns" (153 : Nat) "UnitTurns$Setup" "instructions" "I" ∈ hs_tbl := List.mem_filter.mpr ⟨List.mem_of_getElem? (i := 136) (by decide +kernel), by decide +kernel⟩
theorem fl_X8_153 : hs_FL RX8 153 6 5 := ⟨RX6, TX6, 8, tyX6, rfl, by decide, mt_14, inX6, tyX6_ok, nmX6⟩
theorem mt_15 : Cond.fieldLink "UnitTurns" (162 : Nat) "UnitTurns$Script" "length" "I" ∈ hs_tbl := List.mem_filter.mpr ⟨List.mem_of_getElem? (i := 337) (by decide +kernel), by decide +kernel⟩
theorem fl_X8_162 : hs_FL RX8 162 4 3 := ⟨RX4, TX4, 6, tyX4, rfl, by decide, mt_15, inX4, tyX4_ok, nmX4⟩
theorem mt_16 : Cond.fieldLink "UnitTurns" (172 : Nat) "UnitTurns$Script" "orders" "I" ∈ hs_tbl := List.mem_filter.mpr ⟨List.mem_of_getElem? (i := 339) (by decide +kernel), by decide +kernel⟩
theorem fl_X8_172 : hs_FL RX8 172 4 4 := ⟨RX4, TX4, 6, tyX4, rfl, by decide, mt_16, inX4, tyX4_ok, nmX4⟩
theorem mt_17 : Cond.fieldLink "UnitTurns" (186 : Nat) "UnitTurns$Trail" "size" "I" ∈ hs_tbl := List.mem_filter.mpr ⟨List.mem_of_getElem? (i := 172) (by decide +kernel), by decide +kernel⟩
theorem fl_X8_186 : hs_FL RX8 186 7 2 := ⟨RX7, TX7, 3, tyX7, rfl, by decide, mt_17, inX7, tyX7_ok, nmX7⟩
theorem mt_18 : Cond.fieldLink "UnitTurns" (199 : Nat) "UnitTurns$Chart" "known" "Z" ∈ hs_tbl := List.mem_filter.mpr ⟨List.mem_of_getElem? (i := 194) (by decide +kernel), by decide +kernel⟩
theorem fw_X8_199 : hs_FW RX8 199 1 6 .boolean := ⟨RX1, TX1, 7, tyX1, rfl, by decide, mt_18, inX1, tyX1_ok, nmX1, rfl, by decide +kernel⟩
theorem mt_19 : Cond.fieldLink "UnitTurns" (202 : Nat) "UnitTurns$Block" "known" "Z" ∈ hs_tbl := List.mem_filter.mpr ⟨List.mem_of_getElem? (i := 244) (by decide +kernel), by decide +kernel⟩
theorem fw_X8_202 : hs_FW RX8 202 0 9 .boolean := ⟨RX0, TX0, 10, tyX0, rfl, by decide, mt_19, inX0, tyX0_ok, nmX0, rfl, by decide +kernel⟩
theorem mt_20 : Cond.fieldLink "UnitTurns" (203 : Nat) "UnitTurns$Search" "known" "Z" ∈ hs_tbl := List.mem_filter.mpr ⟨List.mem_of_getElem? (i := 311) (by decide +kernel), by decide +kernel⟩
theorem fw_X8_203 : hs_FW RX8 203 5 6 .boolean := ⟨RX5, TX5, 7, tyX5, rfl, by decide, mt_20, inX5, tyX5_ok, nmX5, rfl, by decide +kernel⟩
theorem mt_21 : Cond.fieldLink "UnitTurns" (204 : Nat) "UnitTurns$Setup" "latency" "[I" ∈ hs_tbl := List.mem_filter.mpr ⟨List.mem_of_getElem? (i := 126) (by decide +kernel), by decide +kernel⟩
theorem fl_X8_204 : hs_FL RX8 204 6 1 := ⟨RX6, TX6, 8, tyX6, rfl, by decide, mt_21, inX6, tyX6_ok, nmX6⟩
theorem mt_22 : Cond.fieldLink "UnitTurns" (210 : Nat) "UnitTurns$Setup" "holds" "[I" ∈ hs_tbl := List.mem_filter.mpr ⟨List.mem_of_getElem? (i := 123) (by decide +kernel), by decide +kernel⟩
theorem fl_X8_210 : hs_FL RX8 210 6 0 := ⟨RX6, TX6, 8, tyX6, rfl, by decide, mt_22, inX6, tyX6_ok, nmX6⟩
theorem mt_23 : Cond.fieldLink "UnitTurns" (216 : Nat) "UnitTurns$Setup" "kindOf" "[I" ∈ hs_tbl := List.mem_filter.mpr ⟨List.mem_of_getElem? (i := 129) (by decide +kernel), by decide +kernel⟩
theorem fl_X8_216 : hs_FL RX8 216 6 2 := ⟨RX6, TX6, 8, tyX6, rfl, by decide, mt_23, inX6, tyX6_ok, nmX6⟩
theorem mt_24 : Cond.fieldLink "UnitTurns" (219 : Nat) "UnitTurns$Block" "way" "[I" ∈ hs_tbl := List.mem_filter.mpr ⟨List.mem_of_getElem? (i := 224) (by decide +kernel), by decide +kernel⟩
theorem fl_X8_219 : hs_FL RX8 219 0 2 := ⟨RX0, TX0, 10, tyX0, rfl, by decide, mt_24, inX0, tyX0_ok, nmX0⟩
theorem mt_25 : Cond.fieldLink "UnitTurns" (225 : Nat) "UnitTurns$Block" "earliest" "[I" ∈ hs_tbl := List.mem_filter.mpr ⟨List.mem_of_getElem? (i := 228) (by decide +kernel), by decide +kernel⟩
theorem fl_X8_225 : hs_FL RX8 225 0 3 := ⟨RX0, TX0, 10, tyX0, rfl, by decide, mt_25, inX0, tyX0_ok, nmX0⟩
theorem mt_26 : Cond.fieldLink "UnitTurns" (236 : Nat) "UnitTurns$Setup" "width" "I" ∈ hs_tbl := List.mem_filter.mpr ⟨List.mem_of_getElem? (i := 139) (by decide +kernel), by decide +kernel⟩
theorem fl_X8_236 : hs_FL RX8 236 6 6 := ⟨RX6, TX6, 8, tyX6, rfl, by decide, mt_26, inX6, tyX6_ok, nmX6⟩
theorem mt_27 : Cond.fieldLink "UnitTurns" (239 : Nat) "UnitTurns$Setup" "renamed" "I" ∈ hs_tbl := List.mem_filter.mpr ⟨List.mem_of_getElem? (i := 141) (by decide +kernel), by decide +kernel⟩
theorem fl_X8_239 : hs_FL RX8 239 6 7 := ⟨RX6, TX6, 8, tyX6, rfl, by decide, mt_27, inX6, tyX6_ok, nmX6⟩
theorem mt_28 : Cond.fieldLink "UnitTurns$Block" (9 : Nat) "UnitTurns$Block" "holds" "[I" ∈ hs_tbl := List.mem_filter.mpr ⟨List.mem_of_getElem? (i := 216) (by decide +kernel), by decide +kernel⟩
theorem fl_X0_9 : hs_FL RX0 9 0 0 := ⟨RX0, TX0, 10, tyX0, rfl, by decide, mt_28, inX0, tyX0_ok, nmX0⟩
theorem mt_29 : Cond.fieldLink "UnitTurns$Block" (15 : Nat) "UnitTurns$Block" "span" "[I" ∈ hs_tbl := List.mem_filter.mpr ⟨List.mem_of_getElem? (i := 218) (by decide +kernel), by decide +kernel⟩
theorem fl_X0_15 : hs_FL RX0 15 0 1 := ⟨RX0, TX0, 10, tyX0, rfl, by decide, mt_29, inX0, tyX0_ok, nmX0⟩
theorem mt_30 : Cond.fieldLink "UnitTurns$Block" (18 : Nat) "UnitTurns$Block" "way" "[I" ∈ hs_tbl := List.mem_filter.mpr ⟨List.mem_of_getElem? (i := 220) (by decide +kernel), by decide +kernel⟩
theorem fl_X0_18 : hs_FL RX0 18 0 2 := ⟨RX0, TX0, 10, tyX0, rfl, by decide, mt_30, inX0, tyX0_ok, nmX0⟩
theorem mt_31 : Cond.fieldLink "UnitTurns$Block" (21 : Nat) "UnitTurns$Block" "earliest" "[I" ∈ hs_tbl := List.mem_filter.mpr ⟨List.mem_of_getElem? (i := 225) (by decide +kernel), by decide +kernel⟩
theorem fl_X0_21 : hs_FL RX0 21 0 3 := ⟨RX0, TX0, 10, tyX0, rfl, by decide, mt_31, inX0, tyX0_ok, nmX0⟩
theorem mt_32 : Cond.fieldLink "UnitTurns$Block" (24 : Nat) "UnitTurns$Block" "delay" "[I" ∈ hs_tbl := List.mem_filter.mpr ⟨List.mem_of_getElem? (i := 229) (by decide +kernel), by decide +kernel⟩
theorem fl_X0_24 : hs_FL RX0 24 0 4 := ⟨RX0, TX0, 10, tyX0, rfl, by decide, mt_32, inX0, tyX0_ok, nmX0⟩
theorem mt_33 : Cond.fieldLink "UnitTurns$Block" (27 : Nat) "UnitTurns$Block" "clash" "[I" ∈ hs_tbl := List.mem_filter.mpr ⟨List.mem_of_getElem? (i := 232) (by decide +kernel), by decide +kernel⟩
theorem fl_X0_27 : hs_FL RX0 27 0 5 := ⟨RX0, TX0, 10, tyX0, rfl, by decide, mt_33, inX0, tyX0_ok, nmX0⟩
theorem mt_34 : Cond.fieldLink "UnitTurns$Block" (30 : Nat) "UnitTurns$Block" "figures" "[I" ∈ hs_tbl := List.mem_filter.mpr ⟨List.mem_of_getElem? (i := 234) (by decide +kernel), by decide +kernel⟩
theorem fl_X0_30 : hs_FL RX0 30 0 6 := ⟨RX0, TX0, 10, tyX0, rfl, by decide, mt_34, inX0, tyX0_ok, nmX0⟩
theorem mt_35 : Cond.fieldLink "UnitTurns$Block" (33 : Nat) "UnitTurns$Block" "known" "Z" ∈ hs_tbl := List.mem_filter.mpr ⟨List.mem_of_getElem? (i := 243) (by decide +kernel), by decide +kernel⟩
theorem fl_X0_33 : hs_FL RX0 33 0 9 := ⟨RX0, TX0, 10, tyX0, rfl, by decide, mt_35, inX0, tyX0_ok, nmX0⟩
theorem fw_X0_33 : hs_FW RX0 33 0 9 .boolean := ⟨RX0, TX0, 10, tyX0, rfl, by decide, mt_35, inX0, tyX0_ok, nmX0, rfl, by decide +kernel⟩
theorem mt_36 : Cond.fieldLink "UnitTurns$Block" (37 : Nat) "UnitTurns$Setup" "instructions" "I" ∈ hs_tbl := List.mem_filter.mpr ⟨List.mem_of_getElem? (i := 134) (by decide +kernel), by decide +kernel⟩
theorem fl_X0_37 : hs_FL RX0 37 6 5 := ⟨RX6, TX6, 8, tyX6, rfl, by decide, mt_36, inX6, tyX6_ok, nmX6⟩
theorem mt_37 : Cond.fieldLink "UnitTurns$Block" (43 : Nat) "UnitTurns$Block" "count" "I" ∈ hs_tbl := List.mem_filter.mpr ⟨List.mem_of_getElem? (i := 236) (by decide +kernel), by decide +kernel⟩
theorem fl_X0_43 : hs_FL RX0 43 0 7 := ⟨RX0, TX0, 10, tyX0, rfl, by decide, mt_37, inX0, tyX0_ok, nmX0⟩
theorem fw_X0_43 : hs_FW RX0 43 0 7 .int := ⟨RX0, TX0, 10, tyX0, rfl, by decide, mt_37, inX0, tyX0_ok, nmX0, rfl, by decide +kernel⟩
theorem mt_38 : Cond.fieldLink "UnitTurns$Block" (46 : Nat) "UnitTurns$Setup" "width" "I" ∈ hs_tbl := List.mem_filter.mpr ⟨List.mem_of_getElem? (i := 138) (by decide +kernel), by decide +kernel⟩
theorem fl_X0_46 : hs_FL RX0 46 6 6 := ⟨RX6, TX6, 8, tyX6, rfl, by decide, mt_38, inX6, tyX6_ok, nmX6⟩
theorem mt_39 : Cond.fieldLink "UnitTurns$Block" (49 : Nat) "UnitTurns$Block" "width" "I" ∈ hs_tbl := List.mem_filter.mpr ⟨List.mem_of_getElem? (i := 239) (by decide +kernel), by decide +kernel⟩
theorem fl_X0_49 : hs_FL RX0 49 0 8 := ⟨RX0, TX0, 10, tyX0, rfl, by decide, mt_39, inX0, tyX0_ok, nmX0⟩
theorem fw_X0_49 : hs_FW RX0 49 0 8 .int := ⟨RX0, TX0, 10, tyX0, rfl, by decide, mt_39, inX0, tyX0_ok, nmX0, rfl, by decide +kernel⟩
theorem mt_40 : Cond.fieldLink "UnitTurns$Block" (50 : Nat) "UnitTurns$Setup" "kindOf" "[I" ∈ hs_tbl := List.mem_filter.mpr ⟨List.mem_of_getElem? (i := 128) (by decide +kernel), by decide +kernel⟩
theorem fl_X0_50 : hs_FL RX0 50 6 2 := ⟨RX6, TX6, 8, tyX6, rfl, by decide, mt_40, inX6, tyX6_ok, nmX6⟩
theorem mt_41 : Cond.fieldLink "UnitTurns$Block" (53 : Nat) "UnitTurns$Setup" "holds" "[I" ∈ hs_tbl := List.mem_filter.mpr ⟨List.mem_of_getElem? (i := 121) (by decide +kernel), by decide +kernel⟩
theorem fl_X0_53 : hs_FL RX0 53 6 0 := ⟨RX6, TX6, 8, tyX6, rfl, by decide, mt_41, inX6, tyX6_ok, nmX6⟩
theorem mt_42 : Cond.fieldLink "UnitTurns$Block" (54 : Nat) "UnitTurns$Setup" "latency" "[I" ∈ hs_tbl := List.mem_filter.mpr ⟨List.mem_of_getElem? (i := 125) (by decide +kernel), by decide +kernel⟩
theorem fl_X0_54 : hs_FL RX0 54 6 1 := ⟨RX6, TX6, 8, tyX6, rfl, by decide, mt_42, inX6, tyX6_ok, nmX6⟩
theorem mt_43 : Cond.fieldLink "UnitTurns$Chart" (9 : Nat) "UnitTurns$Chart" "found" "[I" ∈ hs_tbl := List.mem_filter.mpr ⟨List.mem_of_getElem? (i := 186) (by decide +kernel), by decide +kernel⟩
theorem fl_X1_9 : hs_FL RX1 9 1 0 := ⟨RX1, TX1, 7, tyX1, rfl, by decide, mt_43, inX1, tyX1_ok, nmX1⟩
theorem mt_44 : Cond.fieldLink "UnitTurns$Chart" (15 : Nat) "UnitTurns$Chart" "clashes" "[I" ∈ hs_tbl := List.mem_filter.mpr ⟨List.mem_of_getElem? (i := 187) (by decide +kernel), by decide +kernel⟩
theorem fl_X1_15 : hs_FL RX1 15 1 1 := ⟨RX1, TX1, 7, tyX1, rfl, by decide, mt_44, inX1, tyX1_ok, nmX1⟩
theorem mt_45 : Cond.fieldLink "UnitTurns$Chart" (18 : Nat) "UnitTurns$Chart" "places" "[I" ∈ hs_tbl := List.mem_filter.mpr ⟨List.mem_of_getElem? (i := 188) (by decide +kernel), by decide +kernel⟩
theorem fl_X1_18 : hs_FL RX1 18 1 2 := ⟨RX1, TX1, 7, tyX1, rfl, by decide, mt_45, inX1, tyX1_ok, nmX1⟩
theorem mt_46 : Cond.fieldLink "UnitTurns$Chart" (21 : Nat) "UnitTurns$Chart" "known" "Z" ∈ hs_tbl := List.mem_filter.mpr ⟨List.mem_of_getElem? (i := 193) (by decide +kernel), by decide +kernel⟩
theorem fl_X1_21 : hs_FL RX1 21 1 6 := ⟨RX1, TX1, 7, tyX1, rfl, by decide, mt_46, inX1, tyX1_ok, nmX1⟩
theorem fw_X1_21 : hs_FW RX1 21 1 6 .boolean := ⟨RX1, TX1, 7, tyX1, rfl, by decide, mt_46, inX1, tyX1_ok, nmX1, rfl, by decide +kernel⟩
theorem mt_47 : Cond.fieldLink "UnitTurns$Chart" (32 : Nat) "UnitTurns$Chart" "tooMany" "Z" ∈ hs_tbl := List.mem_filter.mpr ⟨List.mem_of_getElem? (i := 191) (by decide +kernel), by decide +kernel⟩
theorem fl_X1_32 : hs_FL RX1 32 1 5 := ⟨RX1, TX1, 7, tyX1, rfl, by decide, mt_47, inX1, tyX1_ok, nmX1⟩
theorem fw_X1_32 : hs_FW RX1 32 1 5 .boolean := ⟨RX1, TX1, 7, tyX1, rfl, by decide, mt_47, inX1, tyX1_ok, nmX1, rfl, by decide +kernel⟩
theorem mt_48 : Cond.fieldLink "UnitTurns$Chart" (38 : Nat) "UnitTurns$Chart" "count" "I" ∈ hs_tbl := List.mem_filter.mpr ⟨List.mem_of_getElem? (i := 189) (by decide +kernel), by decide +kernel⟩
theorem fl_X1_38 : hs_FL RX1 38 1 3 := ⟨RX1, TX1, 7, tyX1, rfl, by decide, mt_48, inX1, tyX1_ok, nmX1⟩
theorem fw_X1_38 : hs_FW RX1 38 1 3 .int := ⟨RX1, TX1, 7, tyX1, rfl, by decide, mt_48, inX1, tyX1_ok, nmX1, rfl, by decide +kernel⟩
theorem mt_49 : Cond.fieldLink "UnitTurns$Chart" (42 : Nat) "UnitTurns$Chart" "classCount" "I" ∈ hs_tbl := List.mem_filter.mpr ⟨List.mem_of_getElem? (i := 190) (by decide +kernel), by decide +kernel⟩
theorem fl_X1_42 : hs_FL RX1 42 1 4 := ⟨RX1, TX1, 7, tyX1, rfl, by decide, mt_49, inX1, tyX1_ok, nmX1⟩
theorem fw_X1_42 : hs_FW RX1 42 1 4 .int := ⟨RX1, TX1, 7, tyX1, rfl, by decide, mt_49, inX1, tyX1_ok, nmX1, rfl, by decide +kernel⟩
theorem mt_50 : Cond.fieldLink "UnitTurns$Chart" (52 : Nat) "UnitTurns$Setup" "holds" "[I" ∈ hs_tbl := List.mem_filter.mpr ⟨List.mem_of_getElem? (i := 122) (by decide +kernel), by decide +kernel⟩
theorem fl_X1_52 : hs_FL RX1 52 6 0 := ⟨RX6, TX6, 8, tyX6, rfl, by decide, mt_50, inX6, tyX6_ok, nmX6⟩
theorem mt_51 : Cond.fieldLink "UnitTurns$Chart" (61 : Nat) "UnitTurns$Setup" "kinds" "I" ∈ hs_tbl := List.mem_filter.mpr ⟨List.mem_of_getElem? (i := 133) (by decide +kernel), by decide +kernel⟩
theorem fl_X1_61 : hs_FL RX1 61 6 4 := ⟨RX6, TX6, 8, tyX6, rfl, by decide, mt_51, inX6, tyX6_ok, nmX6⟩
theorem mt_52 : Cond.fieldLink "UnitTurns$Ranks" (9 : Nat) "UnitTurns$Ranks" "turns" "[I" ∈ hs_tbl := List.mem_filter.mpr ⟨List.mem_of_getElem? (i := 272) (by decide +kernel), by decide +kernel⟩
theorem fl_X2_9 : hs_FL RX2 9 2 0 := ⟨RX2, TX2, 3, tyX2, rfl, by decide, mt_52, inX2, tyX2_ok, nmX2⟩
theorem mt_53 : Cond.fieldLink "UnitTurns$Ranks" (15 : Nat) "UnitTurns$Ranks" "order" "[I" ∈ hs_tbl := List.mem_filter.mpr ⟨List.mem_of_getElem? (i := 274) (by decide +kernel), by decide +kernel⟩
theorem fl_X2_15 : hs_FL RX2 15 2 1 := ⟨RX2, TX2, 3, tyX2, rfl, by decide, mt_53, inX2, tyX2_ok, nmX2⟩
theorem mt_54 : Cond.fieldLink "UnitTurns$Ranks" (18 : Nat) "UnitTurns$Ranks" "weight" "[I" ∈ hs_tbl := List.mem_filter.mpr ⟨List.mem_of_getElem? (i := 275) (by decide +kernel), by decide +kernel⟩
theorem fl_X2_18 : hs_FL RX2 18 2 2 := ⟨RX2, TX2, 3, tyX2, rfl, by decide, mt_54, inX2, tyX2_ok, nmX2⟩
theorem mt_55 : Cond.fieldLink "UnitTurns$Ranks" (25 : Nat) "UnitTurns$Block" "count" "I" ∈ hs_tbl := List.mem_filter.mpr ⟨List.mem_of_getElem? (i := 235) (by decide +kernel), by decide +kernel⟩
theorem fl_X2_25 : hs_FL RX2 25 0 7 := ⟨RX0, TX0, 10, tyX0, rfl, by decide, mt_55, inX0, tyX0_ok, nmX0⟩
theorem mt_56 : Cond.fieldLink "UnitTurns$Ranks" (45 : Nat) "UnitTurns$Block" "way" "[I" ∈ hs_tbl := List.mem_filter.mpr ⟨List.mem_of_getElem? (i := 221) (by decide +kernel), by decide +kernel⟩
theorem fl_X2_45 : hs_FL RX2 45 0 2 := ⟨RX0, TX0, 10, tyX0, rfl, by decide, mt_56, inX0, tyX0_ok, nmX0⟩
theorem mt_57 : Cond.fieldLink "UnitTurns$Ranks" (48 : Nat) "UnitTurns$Block" "delay" "[I" ∈ hs_tbl := List.mem_filter.mpr ⟨List.mem_of_getElem? (i := 231) (by decide +kernel), by decide +kernel⟩
theorem fl_X2_48 : hs_FL RX2 48 0 4 := ⟨RX0, TX0, 10, tyX0, rfl, by decide, mt_57, inX0, tyX0_ok, nmX0⟩
theorem mt_58 : Cond.fieldLink "UnitTurns$Ranks" (55 : Nat) "UnitTurns$Block" "width" "I" ∈ hs_tbl := List.mem_filter.mpr ⟨List.mem_of_getElem? (i := 241) (by decide +kernel), by decide +kernel⟩
theorem fl_X2_55 : hs_FL RX2 55 0 8 := ⟨RX0, TX0, 10, tyX0, rfl, by decide, mt_58, inX0, tyX0_ok, nmX0⟩
theorem mt_59 : Cond.fieldLink "UnitTurns$Rows" (11 : Nat) "UnitTurns$Rows" "least" "[I" ∈ hs_tbl := List.mem_filter.mpr ⟨List.mem_of_getElem? (i := 295) (by decide +kernel), by decide +kernel⟩
theorem fl_X3_11 : hs_FL RX3 11 3 0 := ⟨RX3, TX3, 2, tyX3, rfl, by decide, mt_59, inX3, tyX3_ok, nmX3⟩
theorem mt_60 : Cond.fieldLink "UnitTurns$Rows" (15 : Nat) "UnitTurns$Rows" "apart" "[I" ∈ hs_tbl := List.mem_filter.mpr ⟨List.mem_of_getElem? (i := 296) (by decide +kernel), by decide +kernel⟩
theorem fl_X3_15 : hs_FL RX3 15 3 1 := ⟨RX3, TX3, 2, tyX3, rfl, by decide, mt_60, inX3, tyX3_ok, nmX3⟩
theorem mt_61 : Cond.fieldLink "UnitTurns$Rows" (22 : Nat) "UnitTurns$Block" "count" "I" ∈ hs_tbl := List.mem_filter.mpr ⟨List.mem_of_getElem? (i := 237) (by decide +kernel), by decide +kernel⟩
theorem fl_X3_22 : hs_FL RX3 22 0 7 := ⟨RX0, TX0, 10, tyX0, rfl, by decide, mt_61, inX0, tyX0_ok, nmX0⟩
theorem mt_62 : Cond.fieldLink "UnitTurns$Rows" (41 : Nat) "UnitTurns$Block" "width" "I" ∈ hs_tbl := List.mem_filter.mpr ⟨List.mem_of_getElem? (i := 240) (by decide +kernel), by decide +kernel⟩
theorem fl_X3_41 : hs_FL RX3 41 0 8 := ⟨RX0, TX0, 10, tyX0, rfl, by decide, mt_62, inX0, tyX0_ok, nmX0⟩
theorem mt_63 : Cond.fieldLink "UnitTurns$Rows" (52 : Nat) "UnitTurns$Block" "way" "[I" ∈ hs_tbl := List.mem_filter.mpr ⟨List.mem_of_getElem? (i := 222) (by decide +kernel), by decide +kernel⟩
theorem fl_X3_52 : hs_FL RX3 52 0 2 := ⟨RX0, TX0, 10, tyX0, rfl, by decide, mt_63, inX0, tyX0_ok, nmX0⟩
theorem mt_64 : Cond.fieldLink "UnitTurns$Rows" (58 : Nat) "UnitTurns$Block" "earliest" "[I" ∈ hs_tbl := List.mem_filter.mpr ⟨List.mem_of_getElem? (i := 226) (by decide +kernel), by decide +kernel⟩
theorem fl_X3_58 : hs_FL RX3 58 0 3 := ⟨RX0, TX0, 10, tyX0, rfl, by decide, mt_64, inX0, tyX0_ok, nmX0⟩
theorem mt_65 : Cond.fieldLink "UnitTurns$Script" (9 : Nat) "UnitTurns$Script" "bytes" "[I" ∈ hs_tbl := List.mem_filter.mpr ⟨List.mem_of_getElem? (i := 333) (by decide +kernel), by decide +kernel⟩
theorem fl_X4_9 : hs_FL RX4 9 4 0 := ⟨RX4, TX4, 6, tyX4, rfl, by decide, mt_65, inX4, tyX4_ok, nmX4⟩
theorem mt_66 : Cond.fieldLink "UnitTurns$Script" (15 : Nat) "UnitTurns$Script" "letters" "[I" ∈ hs_tbl := List.mem_filter.mpr ⟨List.mem_of_getElem? (i := 334) (by decide +kernel), by decide +kernel⟩
theorem fl_X4_15 : hs_FL RX4 15 4 1 := ⟨RX4, TX4, 6, tyX4, rfl, by decide, mt_66, inX4, tyX4_ok, nmX4⟩
theorem mt_67 : Cond.fieldLink "UnitTurns$Script" (18 : Nat) "UnitTurns$Script" "numbers" "[I" ∈ hs_tbl := List.mem_filter.mpr ⟨List.mem_of_getElem? (i := 335) (by decide +kernel), by decide +kernel⟩
theorem fl_X4_18 : hs_FL RX4 18 4 2 := ⟨RX4, TX4, 6, tyX4, rfl, by decide, mt_67, inX4, tyX4_ok, nmX4⟩
theorem mt_68 : Cond.fieldLink "UnitTurns$Script" (21 : Nat) "UnitTurns$Script" "length" "I" ∈ hs_tbl := List.mem_filter.mpr ⟨List.mem_of_getElem? (i := 336) (by decide +kernel), by decide +kernel⟩
theorem fl_X4_21 : hs_FL RX4 21 4 3 := ⟨RX4, TX4, 6, tyX4, rfl, by decide, mt_68, inX4, tyX4_ok, nmX4⟩
theorem fw_X4_21 : hs_FW RX4 21 4 3 .int := ⟨RX4, TX4, 6, tyX4, rfl, by decide, mt_68, inX4, tyX4_ok, nmX4, rfl, by decide +kernel⟩
theorem mt_69 : Cond.fieldLink "UnitTurns$Script" (25 : Nat) "UnitTurns$Script" "orders" "I" ∈ hs_tbl := List.mem_filter.mpr ⟨List.mem_of_getElem? (i := 338) (by decide +kernel), by decide +kernel⟩
theorem fl_X4_25 : hs_FL RX4 25 4 4 := ⟨RX4, TX4, 6, tyX4, rfl, by decide, mt_69, inX4, tyX4_ok, nmX4⟩
theorem fw_X4_25 : hs_FW RX4 25 4 4 .int := ⟨RX4, TX4, 6, tyX4, rfl, by decide, mt_69, inX4, tyX4_ok, nmX4, rfl, by decide +kernel⟩
theorem mt_70 : Cond.fieldLink "UnitTurns$Script" (28 : Nat) "UnitTurns$Script" "place" "I" ∈ hs_tbl := List.mem_filter.mpr ⟨List.mem_of_getElem? (i := 340) (by decide +kernel), by decide +kernel⟩
theorem fl_X4_28 : hs_FL RX4 28 4 5 := ⟨RX4, TX4, 6, tyX4, rfl, by decide, mt_70, inX4, tyX4_ok, nmX4⟩
theorem fw_X4_28 : hs_FW RX4 28 4 5 .int := ⟨RX4, TX4, 6, tyX4, rfl, by decide, mt_70, inX4, tyX4_ok, nmX4, rfl, by decide +kernel⟩
theorem mt_71 : Cond.fieldLink "UnitTurns$Search" (9 : Nat) "UnitTurns$Search" "open" "[I" ∈ hs_tbl := List.mem_filter.mpr ⟨List.mem_of_getElem? (i := 302) (by decide +kernel), by decide +kernel⟩
theorem fl_X5_9 : hs_FL RX5 9 5 0 := ⟨RX5, TX5, 7, tyX5, rfl, by decide, mt_71, inX5, tyX5_ok, nmX5⟩
theorem mt_72 : Cond.fieldLink "UnitTurns$Search" (15 : Nat) "UnitTurns$Search" "gap" "[I" ∈ hs_tbl := List.mem_filter.mpr ⟨List.mem_of_getElem? (i := 303) (by decide +kernel), by decide +kernel⟩
theorem fl_X5_15 : hs_FL RX5 15 5 1 := ⟨RX5, TX5, 7, tyX5, rfl, by decide, mt_72, inX5, tyX5_ok, nmX5⟩
theorem mt_73 : Cond.fieldLink "UnitTurns$Search" (18 : Nat) "UnitTurns$Search" "trial" "[I" ∈ hs_tbl := List.mem_filter.mpr ⟨List.mem_of_getElem? (i := 304) (by decide +kernel), by decide +kernel⟩
theorem fl_X5_18 : hs_FL RX5 18 5 2 := ⟨RX5, TX5, 7, tyX5, rfl, by decide, mt_73, inX5, tyX5_ok, nmX5⟩
theorem mt_74 : Cond.fieldLink "UnitTurns$Search" (21 : Nat) "UnitTurns$Search" "turns" "[I" ∈ hs_tbl := List.mem_filter.mpr ⟨List.mem_of_getElem? (i := 305) (by decide +kernel), by decide +kernel⟩
theorem fl_X5_21 : hs_FL RX5 21 5 3 := ⟨RX5, TX5, 7, tyX5, rfl, by decide, mt_74, inX5, tyX5_ok, nmX5⟩
theorem mt_75 : Cond.fieldLink "UnitTurns$Search" (27 : Nat) "UnitTurns$Search" "rows" "LUnitTurns$Rows;" ∈ hs_tbl := List.mem_filter.mpr ⟨List.mem_of_getElem? (i := 307) (by decide +kernel), by decide +kernel⟩
theorem fl_X5_27 : hs_FL RX5 27 5 4 := ⟨RX5, TX5, 7, tyX5, rfl, by decide, mt_75, inX5, tyX5_ok, nmX5⟩
theorem mt_76 : Cond.fieldLink "UnitTurns$Search" (31 : Nat) "UnitTurns$Search" "known" "Z" ∈ hs_tbl := List.mem_filter.mpr ⟨List.mem_of_getElem? (i := 310) (by decide +kernel), by decide +kernel⟩
theorem fl_X5_31 : hs_FL RX5 31 5 6 := ⟨RX5, TX5, 7, tyX5, rfl, by decide, mt_76, inX5, tyX5_ok, nmX5⟩
theorem fw_X5_31 : hs_FW RX5 31 5 6 .boolean := ⟨RX5, TX5, 7, tyX5, rfl, by decide, mt_76, inX5, tyX5_ok, nmX5, rfl, by decide +kernel⟩
theorem mt_77 : Cond.fieldLink "UnitTurns$Search" (54 : Nat) "UnitTurns$Search" "length" "I" ∈ hs_tbl := List.mem_filter.mpr ⟨List.mem_of_getElem? (i := 308) (by decide +kernel), by decide +kernel⟩
theorem fl_X5_54 : hs_FL RX5 54 5 5 := ⟨RX5, TX5, 7, tyX5, rfl, by decide, mt_77, inX5, tyX5_ok, nmX5⟩
theorem fw_X5_54 : hs_FW RX5 54 5 5 .int := ⟨RX5, TX5, 7, tyX5, rfl, by decide, mt_77, inX5, tyX5_ok, nmX5, rfl, by decide +kernel⟩
theorem mt_78 : Cond.fieldLink "UnitTurns$Search" (68 : Nat) "UnitTurns$Block" "count" "I" ∈ hs_tbl := List.mem_filter.mpr ⟨List.mem_of_getElem? (i := 238) (by decide +kernel), by decide +kernel⟩
theorem fl_X5_68 : hs_FL RX5 68 0 7 := ⟨RX0, TX0, 10, tyX0, rfl, by decide, mt_78, inX0, tyX0_ok, nmX0⟩
theorem mt_79 : Cond.fieldLink "UnitTurns$Search" (71 : Nat) "UnitTurns$Block" "delay" "[I" ∈ hs_tbl := List.mem_filter.mpr ⟨List.mem_of_getElem? (i := 230) (by decide +kernel), by decide +kernel⟩
theorem fl_X5_71 : hs_FL RX5 71 0 4 := ⟨RX0, TX0, 10, tyX0, rfl, by decide, mt_79, inX0, tyX0_ok, nmX0⟩
theorem mt_80 : Cond.fieldLink "UnitTurns$Search" (85 : Nat) "UnitTurns$Block" "holds" "[I" ∈ hs_tbl := List.mem_filter.mpr ⟨List.mem_of_getElem? (i := 217) (by decide +kernel), by decide +kernel⟩
theorem fl_X5_85 : hs_FL RX5 85 0 0 := ⟨RX0, TX0, 10, tyX0, rfl, by decide, mt_80, inX0, tyX0_ok, nmX0⟩
theorem mt_81 : Cond.fieldLink "UnitTurns$Search" (88 : Nat) "UnitTurns$Block" "span" "[I" ∈ hs_tbl := List.mem_filter.mpr ⟨List.mem_of_getElem? (i := 219) (by decide +kernel), by decide +kernel⟩
theorem fl_X5_88 : hs_FL RX5 88 0 1 := ⟨RX0, TX0, 10, tyX0, rfl, by decide, mt_81, inX0, tyX0_ok, nmX0⟩
theorem mt_82 : Cond.fieldLink "UnitTurns$Search" (97 : Nat) "UnitTurns$Block" "earliest" "[I" ∈ hs_tbl := List.mem_filter.mpr ⟨List.mem_of_getElem? (i := 227) (by decide +kernel), by decide +kernel⟩
theorem fl_X5_97 : hs_FL RX5 97 0 3 := ⟨RX0, TX0, 10, tyX0, rfl, by decide, mt_82, inX0, tyX0_ok, nmX0⟩
theorem mt_83 : Cond.fieldLink "UnitTurns$Search" (104 : Nat) "UnitTurns$Block" "way" "[I" ∈ hs_tbl := List.mem_filter.mpr ⟨List.mem_of_getElem? (i := 223) (by decide +kernel), by decide +kernel⟩
theorem fl_X5_104 : hs_FL RX5 104 0 2 := ⟨RX0, TX0, 10, tyX0, rfl, by decide, mt_83, inX0, tyX0_ok, nmX0⟩
theorem mt_84 : Cond.fieldLink "UnitTurns$Search" (130 : Nat) "UnitTurns$Block" "clash" "[I" ∈ hs_tbl := List.mem_filter.mpr ⟨List.mem_of_getElem? (i := 233) (by decide +kernel), by decide +kernel⟩
theorem fl_X5_130 : hs_FL RX5 130 0 5 := ⟨RX0, TX0, 10, tyX0, rfl, by decide, mt_84, inX0, tyX0_ok, nmX0⟩
theorem mt_85 : Cond.fieldLink "UnitTurns$Search" (133 : Nat) "UnitTurns$Block" "width" "I" ∈ hs_tbl := List.mem_filter.mpr ⟨List.mem_of_getElem? (i := 242) (by decide +kernel), by decide +kernel⟩
theorem fl_X5_133 : hs_FL RX5 133 0 8 := ⟨RX0, TX0, 10, tyX0, rfl, by decide, mt_85, inX0, tyX0_ok, nmX0⟩
theorem mt_86 : Cond.fieldLink "UnitTurns$Setup" (9 : Nat) "UnitTurns$Setup" "holds" "[I" ∈ hs_tbl := List.mem_filter.mpr ⟨List.mem_of_getElem? (i := 120) (by decide +kernel), by decide +kernel⟩
theorem fl_X6_9 : hs_FL RX6 9 6 0 := ⟨RX6, TX6, 8, tyX6, rfl, by decide, mt_86, inX6, tyX6_ok, nmX6⟩
theorem mt_87 : Cond.fieldLink "UnitTurns$Setup" (15 : Nat) "UnitTurns$Setup" "latency" "[I" ∈ hs_tbl := List.mem_filter.mpr ⟨List.mem_of_getElem? (i := 124) (by decide +kernel), by decide +kernel⟩
theorem fl_X6_15 : hs_FL RX6 15 6 1 := ⟨RX6, TX6, 8, tyX6, rfl, by decide, mt_87, inX6, tyX6_ok, nmX6⟩
theorem mt_88 : Cond.fieldLink "UnitTurns$Setup" (18 : Nat) "UnitTurns$Setup" "kindOf" "[I" ∈ hs_tbl := List.mem_filter.mpr ⟨List.mem_of_getElem? (i := 127) (by decide +kernel), by decide +kernel⟩
theorem fl_X6_18 : hs_FL RX6 18 6 2 := ⟨RX6, TX6, 8, tyX6, rfl, by decide, mt_88, inX6, tyX6_ok, nmX6⟩
theorem mt_89 : Cond.fieldLink "UnitTurns$Setup" (21 : Nat) "UnitTurns$Setup" "sorts" "[I" ∈ hs_tbl := List.mem_filter.mpr ⟨List.mem_of_getElem? (i := 130) (by decide +kernel), by decide +kernel⟩
theorem fl_X6_21 : hs_FL RX6 21 6 3 := ⟨RX6, TX6, 8, tyX6, rfl, by decide, mt_89, inX6, tyX6_ok, nmX6⟩
theorem mt_90 : Cond.fieldLink "UnitTurns$Setup" (24 : Nat) "UnitTurns$Setup" "width" "I" ∈ hs_tbl := List.mem_filter.mpr ⟨List.mem_of_getElem? (i := 137) (by decide +kernel), by decide +kernel⟩
theorem fl_X6_24 : hs_FL RX6 24 6 6 := ⟨RX6, TX6, 8, tyX6, rfl, by decide, mt_90, inX6, tyX6_ok, nmX6⟩
theorem fw_X6_24 : hs_FW RX6 24 6 6 .int := ⟨RX6, TX6, 8, tyX6, rfl, by decide, mt_90, inX6, tyX6_ok, nmX6, rfl, by decide +kernel⟩
theorem mt_91 : Cond.fieldLink "UnitTurns$Setup" (34 : Nat) "UnitTurns$Setup" "kinds" "I" ∈ hs_tbl := List.mem_filter.mpr ⟨List.mem_of_getElem? (i := 131) (by decide +kernel), by decide +kernel⟩
theorem fl_X6_34 : hs_FL RX6 34 6 4 := ⟨RX6, TX6, 8, tyX6, rfl, by decide, mt_91, inX6, tyX6_ok, nmX6⟩
theorem fw_X6_34 : hs_FW RX6 34 6 4 .int := ⟨RX6, TX6, 8, tyX6, rfl, by decide, mt_91, inX6, tyX6_ok, nmX6, rfl, by decide +kernel⟩
theorem mt_92 : Cond.fieldLink "UnitTurns$Setup" (37 : Nat) "UnitTurns$Setup" "instructions" "I" ∈ hs_tbl := List.mem_filter.mpr ⟨List.mem_of_getElem? (i := 135) (by decide +kernel), by decide +kernel⟩
theorem fl_X6_37 : hs_FL RX6 37 6 5 := ⟨RX6, TX6, 8, tyX6, rfl, by decide, mt_92, inX6, tyX6_ok, nmX6⟩
theorem fw_X6_37 : hs_FW RX6 37 6 5 .int := ⟨RX6, TX6, 8, tyX6, rfl, by decide, mt_92, inX6, tyX6_ok, nmX6, rfl, by decide +kernel⟩
theorem mt_93 : Cond.fieldLink "UnitTurns$Setup" (40 : Nat) "UnitTurns$Setup" "renamed" "I" ∈ hs_tbl := List.mem_filter.mpr ⟨List.mem_of_getElem? (i := 140) (by decide +kernel), by decide +kernel⟩
theorem fl_X6_40 : hs_FL RX6 40 6 7 := ⟨RX6, TX6, 8, tyX6, rfl, by decide, mt_93, inX6, tyX6_ok, nmX6⟩
theorem fw_X6_40 : hs_FW RX6 40 6 7 .int := ⟨RX6, TX6, 8, tyX6, rfl, by decide, mt_93, inX6, tyX6_ok, nmX6, rfl, by decide +kernel⟩
theorem mt_94 : Cond.fieldLink "UnitTurns$Trail" (11 : Nat) "UnitTurns$Trail" "kept" "[LUnitTurns$Setup;" ∈ hs_tbl := List.mem_filter.mpr ⟨List.mem_of_getElem? (i := 169) (by decide +kernel), by decide +kernel⟩
theorem fl_X7_11 : hs_FL RX7 11 7 0 := ⟨RX7, TX7, 3, tyX7, rfl, by decide, mt_94, inX7, tyX7_ok, nmX7⟩
theorem mt_95 : Cond.fieldLink "UnitTurns$Trail" (18 : Nat) "UnitTurns$Trail" "next" "I" ∈ hs_tbl := List.mem_filter.mpr ⟨List.mem_of_getElem? (i := 170) (by decide +kernel), by decide +kernel⟩
theorem fl_X7_18 : hs_FL RX7 18 7 1 := ⟨RX7, TX7, 3, tyX7, rfl, by decide, mt_95, inX7, tyX7_ok, nmX7⟩
theorem fw_X7_18 : hs_FW RX7 18 7 1 .int := ⟨RX7, TX7, 3, tyX7, rfl, by decide, mt_95, inX7, tyX7_ok, nmX7, rfl, by decide +kernel⟩
theorem mt_96 : Cond.fieldLink "UnitTurns$Trail" (26 : Nat) "UnitTurns$Trail" "size" "I" ∈ hs_tbl := List.mem_filter.mpr ⟨List.mem_of_getElem? (i := 171) (by decide +kernel), by decide +kernel⟩
theorem fl_X7_26 : hs_FL RX7 26 7 2 := ⟨RX7, TX7, 3, tyX7, rfl, by decide, mt_96, inX7, tyX7_ok, nmX7⟩
theorem fw_X7_26 : hs_FW RX7 26 7 2 .int := ⟨RX7, TX7, 3, tyX7, rfl, by decide, mt_96, inX7, tyX7_ok, nmX7, rfl, by decide +kernel⟩
theorem mt_97 : Cond.fieldLink "UnitTurnsModel" (7 : Nat) "UnitTurnsModel" "now" "[I" ∈ hs_tbl := List.mem_filter.mpr ⟨List.mem_of_getElem? (i := 840) (by decide +kernel), by decide +kernel⟩
theorem fl_X9_7 : hs_FL RX9 7 9 0 := ⟨RX9, TX9, 25, tyX9, rfl, by decide, mt_97, inX9, tyX9_ok, nmX9⟩
theorem mt_98 : Cond.fieldLink "UnitTurnsModel" (13 : Nat) "UnitTurnsModel" "held" "[I" ∈ hs_tbl := List.mem_filter.mpr ⟨List.mem_of_getElem? (i := 841) (by decide +kernel), by decide +kernel⟩
theorem fl_X9_13 : hs_FL RX9 13 9 1 := ⟨RX9, TX9, 25, tyX9, rfl, by decide, mt_98, inX9, tyX9_ok, nmX9⟩
theorem mt_99 : Cond.fieldLink "UnitTurnsModel" (16 : Nat) "UnitTurnsModel" "past" "[I" ∈ hs_tbl := List.mem_filter.mpr ⟨List.mem_of_getElem? (i := 842) (by decide +kernel), by decide +kernel⟩
theorem fl_X9_16 : hs_FL RX9 16 9 2 := ⟨RX9, TX9, 25, tyX9, rfl, by decide, mt_99, inX9, tyX9_ok, nmX9⟩
theorem mt_100 : Cond.fieldLink "UnitTurnsModel" (19 : Nat) "UnitTurnsModel" "refused" "[I" ∈ hs_tbl := List.mem_filter.mpr ⟨List.mem_of_getElem? (i := 844) (by decide +kernel), by decide +kernel⟩
theorem fl_X9_19 : hs_FL RX9 19 9 4 := ⟨RX9, TX9, 25, tyX9, rfl, by decide, mt_100, inX9, tyX9_ok, nmX9⟩
theorem mt_101 : Cond.fieldLink "UnitTurnsModel" (22 : Nat) "UnitTurnsModel" "states" "[I" ∈ hs_tbl := List.mem_filter.mpr ⟨List.mem_of_getElem? (i := 847) (by decide +kernel), by decide +kernel⟩
theorem fl_X9_22 : hs_FL RX9 22 9 7 := ⟨RX9, TX9, 25, tyX9, rfl, by decide, mt_101, inX9, tyX9_ok, nmX9⟩
theorem mt_102 : Cond.fieldLink "UnitTurnsModel" (25 : Nat) "UnitTurnsModel" "leadsTo" "[I" ∈ hs_tbl := List.mem_filter.mpr ⟨List.mem_of_getElem? (i := 848) (by decide +kernel), by decide +kernel⟩
theorem fl_X9_25 : hs_FL RX9 25 9 8 := ⟨RX9, TX9, 25, tyX9, rfl, by decide, mt_102, inX9, tyX9_ok, nmX9⟩
theorem mt_103 : Cond.fieldLink "UnitTurnsModel" (28 : Nat) "UnitTurnsModel" "classOf" "[I" ∈ hs_tbl := List.mem_filter.mpr ⟨List.mem_of_getElem? (i := 850) (by decide +kernel), by decide +kernel⟩
theorem fl_X9_28 : hs_FL RX9 28 9 10 := ⟨RX9, TX9, 25, tyX9, rfl, by decide, mt_103, inX9, tyX9_ok, nmX9⟩
theorem mt_104 : Cond.fieldLink "UnitTurnsModel" (31 : Nat) "UnitTurnsModel" "finer" "[I" ∈ hs_tbl := List.mem_filter.mpr ⟨List.mem_of_getElem? (i := 851) (by decide +kernel), by decide +kernel⟩
theorem fl_X9_31 : hs_FL RX9 31 9 11 := ⟨RX9, TX9, 25, tyX9, rfl, by decide, mt_104, inX9, tyX9_ok, nmX9⟩
theorem mt_105 : Cond.fieldLink "UnitTurnsModel" (34 : Nat) "UnitTurnsModel" "ways" "[I" ∈ hs_tbl := List.mem_filter.mpr ⟨List.mem_of_getElem? (i := 852) (by decide +kernel), by decide +kernel⟩
theorem fl_X9_34 : hs_FL RX9 34 9 12 := ⟨RX9, TX9, 25, tyX9, rfl, by decide, mt_105, inX9, tyX9_ok, nmX9⟩
theorem mt_106 : Cond.fieldLink "UnitTurnsModel" (37 : Nat) "UnitTurnsModel" "firsts" "[I" ∈ hs_tbl := List.mem_filter.mpr ⟨List.mem_of_getElem? (i := 853) (by decide +kernel), by decide +kernel⟩
theorem fl_X9_37 : hs_FL RX9 37 9 13 := ⟨RX9, TX9, 25, tyX9, rfl, by decide, mt_106, inX9, tyX9_ok, nmX9⟩
theorem mt_107 : Cond.fieldLink "UnitTurnsModel" (40 : Nat) "UnitTurnsModel" "turns" "[I" ∈ hs_tbl := List.mem_filter.mpr ⟨List.mem_of_getElem? (i := 854) (by decide +kernel), by decide +kernel⟩
theorem fl_X9_40 : hs_FL RX9 40 9 14 := ⟨RX9, TX9, 25, tyX9, rfl, by decide, mt_107, inX9, tyX9_ok, nmX9⟩
theorem mt_108 : Cond.fieldLink "UnitTurnsModel" (43 : Nat) "UnitTurnsModel" "busy" "[J" ∈ hs_tbl := List.mem_filter.mpr ⟨List.mem_of_getElem? (i := 855) (by decide +kernel), by decide +kernel⟩
theorem fl_X9_43 : hs_FL RX9 43 9 15 := ⟨RX9, TX9, 25, tyX9, rfl, by decide, mt_108, inX9, tyX9_ok, nmX9⟩
theorem mt_109 : Cond.fieldLink "UnitTurnsModel" (47 : Nat) "UnitTurnsModel" "order" "[I" ∈ hs_tbl := List.mem_filter.mpr ⟨List.mem_of_getElem? (i := 856) (by decide +kernel), by decide +kernel⟩
theorem fl_X9_47 : hs_FL RX9 47 9 16 := ⟨RX9, TX9, 25, tyX9, rfl, by decide, mt_109, inX9, tyX9_ok, nmX9⟩
theorem mt_110 : Cond.fieldLink "UnitTurnsModel" (50 : Nat) "UnitTurnsModel" "text" "[I" ∈ hs_tbl := List.mem_filter.mpr ⟨List.mem_of_getElem? (i := 857) (by decide +kernel), by decide +kernel⟩
theorem fl_X9_50 : hs_FL RX9 50 9 17 := ⟨RX9, TX9, 25, tyX9, rfl, by decide, mt_110, inX9, tyX9_ok, nmX9⟩
theorem mt_111 : Cond.fieldLink "UnitTurnsModel" (53 : Nat) "UnitTurnsModel" "letters" "[I" ∈ hs_tbl := List.mem_filter.mpr ⟨List.mem_of_getElem? (i := 862) (by decide +kernel), by decide +kernel⟩
theorem fl_X9_53 : hs_FL RX9 53 9 22 := ⟨RX9, TX9, 25, tyX9, rfl, by decide, mt_111, inX9, tyX9_ok, nmX9⟩
theorem mt_112 : Cond.fieldLink "UnitTurnsModel" (56 : Nat) "UnitTurnsModel" "numbers" "[I" ∈ hs_tbl := List.mem_filter.mpr ⟨List.mem_of_getElem? (i := 863) (by decide +kernel), by decide +kernel⟩
theorem fl_X9_56 : hs_FL RX9 56 9 23 := ⟨RX9, TX9, 25, tyX9, rfl, by decide, mt_112, inX9, tyX9_ok, nmX9⟩
theorem mt_113 : Cond.fieldLink "UnitTurnsModel" (59 : Nat) "UnitTurnsModel" "pasts" "I" ∈ hs_tbl := List.mem_filter.mpr ⟨List.mem_of_getElem? (i := 843) (by decide +kernel), by decide +kernel⟩
theorem fl_X9_59 : hs_FL RX9 59 9 3 := ⟨RX9, TX9, 25, tyX9, rfl, by decide, mt_113, inX9, tyX9_ok, nmX9⟩
theorem fw_X9_59 : hs_FW RX9 59 9 3 .int := ⟨RX9, TX9, 25, tyX9, rfl, by decide, mt_113, inX9, tyX9_ok, nmX9, rfl, by decide +kernel⟩
theorem mt_114 : Cond.fieldLink "UnitTurnsModel" (70 : Nat) "UnitTurnsModel" "isLaid" "Z" ∈ hs_tbl := List.mem_filter.mpr ⟨List.mem_of_getElem? (i := 845) (by decide +kernel), by decide +kernel⟩
theorem fl_X9_70 : hs_FL RX9 70 9 5 := ⟨RX9, TX9, 25, tyX9, rfl, by decide, mt_114, inX9, tyX9_ok, nmX9⟩
theorem fw_X9_70 : hs_FW RX9 70 9 5 .boolean := ⟨RX9, TX9, 25, tyX9, rfl, by decide, mt_114, inX9, tyX9_ok, nmX9, rfl, by decide +kernel⟩
theorem mt_115 : Cond.fieldLink "UnitTurnsModel" (128 : Nat) "UnitTurnsModel" "stateMany" "I" ∈ hs_tbl := List.mem_filter.mpr ⟨List.mem_of_getElem? (i := 846) (by decide +kernel), by decide +kernel⟩
theorem fl_X9_128 : hs_FL RX9 128 9 6 := ⟨RX9, TX9, 25, tyX9, rfl, by decide, mt_115, inX9, tyX9_ok, nmX9⟩
theorem fw_X9_128 : hs_FW RX9 128 9 6 .int := ⟨RX9, TX9, 25, tyX9, rfl, by decide, mt_115, inX9, tyX9_ok, nmX9, rfl, by decide +kernel⟩
theorem mt_116 : Cond.fieldLink "UnitTurnsModel" (137 : Nat) "UnitTurnsModel" "classMany" "I" ∈ hs_tbl := List.mem_filter.mpr ⟨List.mem_of_getElem? (i := 849) (by decide +kernel), by decide +kernel⟩
theorem fl_X9_137 : hs_FL RX9 137 9 9 := ⟨RX9, TX9, 25, tyX9, rfl, by decide, mt_116, inX9, tyX9_ok, nmX9⟩
theorem fw_X9_137 : hs_FW RX9 137 9 9 .int := ⟨RX9, TX9, 25, tyX9, rfl, by decide, mt_116, inX9, tyX9_ok, nmX9, rfl, by decide +kernel⟩
theorem mt_117 : Cond.fieldLink "UnitTurnsModel" (216 : Nat) "UnitTurnsModel" "typed" "I" ∈ hs_tbl := List.mem_filter.mpr ⟨List.mem_of_getElem? (i := 858) (by decide +kernel), by decide +kernel⟩
theorem fl_X9_216 : hs_FL RX9 216 9 18 := ⟨RX9, TX9, 25, tyX9, rfl, by decide, mt_117, inX9, tyX9_ok, nmX9⟩
theorem fw_X9_216 : hs_FW RX9 216 9 18 .int := ⟨RX9, TX9, 25, tyX9, rfl, by decide, mt_117, inX9, tyX9_ok, nmX9, rfl, by decide +kernel⟩
theorem mt_118 : Cond.fieldLink "UnitTurnsModel" (219 : Nat) "UnitTurnsModel" "at" "I" ∈ hs_tbl := List.mem_filter.mpr ⟨List.mem_of_getElem? (i := 859) (by decide +kernel), by decide +kernel⟩
theorem fl_X9_219 : hs_FL RX9 219 9 19 := ⟨RX9, TX9, 25, tyX9, rfl, by decide, mt_118, inX9, tyX9_ok, nmX9⟩
theorem fw_X9_219 : hs_FW RX9 219 9 19 .int := ⟨RX9, TX9, 25, tyX9, rfl, by decide, mt_118, inX9, tyX9_ok, nmX9, rfl, by decide +kernel⟩
theorem mt_119 : Cond.fieldLink "UnitTurnsModel" (222 : Nat) "UnitTurnsModel" "fault" "I" ∈ hs_tbl := List.mem_filter.mpr ⟨List.mem_of_getElem? (i := 860) (by decide +kernel), by decide +kernel⟩
theorem fl_X9_222 : hs_FL RX9 222 9 20 := ⟨RX9, TX9, 25, tyX9, rfl, by decide, mt_119, inX9, tyX9_ok, nmX9⟩
theorem fw_X9_222 : hs_FW RX9 222 9 20 .int := ⟨RX9, TX9, 25, tyX9, rfl, by decide, mt_119, inX9, tyX9_ok, nmX9, rfl, by decide +kernel⟩
theorem mt_120 : Cond.fieldLink "UnitTurnsModel" (238 : Nat) "UnitTurnsModel" "orders" "I" ∈ hs_tbl := List.mem_filter.mpr ⟨List.mem_of_getElem? (i := 861) (by decide +kernel), by decide +kernel⟩
theorem fl_X9_238 : hs_FL RX9 238 9 21 := ⟨RX9, TX9, 25, tyX9, rfl, by decide, mt_120, inX9, tyX9_ok, nmX9⟩
theorem fw_X9_238 : hs_FW RX9 238 9 21 .int := ⟨RX9, TX9, 25, tyX9, rfl, by decide, mt_120, inX9, tyX9_ok, nmX9, rfl, by decide +kernel⟩
theorem mt_121 : Cond.fieldLink "UnitTurnsModel" (255 : Nat) "UnitTurnsModel" "h" "J" ∈ hs_tbl := List.mem_filter.mpr ⟨List.mem_of_getElem? (i := 864) (by decide +kernel), by decide +kernel⟩
theorem fl_X9_255 : hs_FL RX9 255 9 24 := ⟨RX9, TX9, 25, tyX9, rfl, by decide, mt_121, inX9, tyX9_ok, nmX9⟩
theorem fw_X9_255 : hs_FW RX9 255 9 24 .long := ⟨RX9, TX9, 25, tyX9, rfl, by decide, mt_121, inX9, tyX9_ok, nmX9, rfl, by decide +kernel⟩
theorem mt_122 : Cond.code ({ cls := "UnitTurns$Setup", name := "copyFrom", desc := "(LUnitTurns$Setup;)V" } : MethodName) prog_8_method_2_code (2 : Nat) (Option.none : Option FieldType) ∈ hs_tbl := List.mem_filter.mpr ⟨List.mem_of_getElem? (i := 389) (by decide +kernel), by decide +kernel⟩
theorem mt_123 : Cond.initialized "UnitTurns$Setup" ∈ hs_tbl := List.mem_filter.mpr ⟨List.mem_of_getElem? (i := 93) (by decide +kernel), by decide +kernel⟩
theorem mt_124 : Cond.methodLink "UnitTurns" (65 : Nat) ({ cls := "UnitTurns$Setup", name := "copyFrom", desc := "(LUnitTurns$Setup;)V" } : MethodName) ∈ hs_tbl := List.mem_filter.mpr ⟨List.mem_of_getElem? (i := 386) (by decide +kernel), by decide +kernel⟩
theorem mt_125 : Cond.instanceMethod ({ cls := "UnitTurns$Setup", name := "copyFrom", desc := "(LUnitTurns$Setup;)V" } : MethodName) ∈ hs_tbl := List.mem_filter.mpr ⟨List.mem_of_getElem? (i := 387) (by decide +kernel), by decide +kernel⟩
theorem mt_126 : Cond.selects "UnitTurns$Setup" ({ cls := "UnitTurns$Setup", name := "copyFrom", desc := "(LUnitTurns$Setup;)V" } : MethodName) ({ cls := "UnitTurns$Setup", name := "copyFrom", desc := "(LUnitTurns$Setup;)V" } : MethodName) ∈ hs_tbl := List.mem_filter.mpr ⟨List.mem_of_getElem? (i := 388) (by decide +kernel), by decide +kernel⟩
theorem mv_X8_65 : hs_MV RX8 65 yX6_copyFrom cX6_copyFrom 2 none 1 6 := ⟨⟨mt_122, mt_123, mt_124, ⟨by decide +kernel, by decide +kernel, by decide +kernel⟩, by decide⟩, mt_125, mt_126, ⟨_, rfl, rfl⟩⟩
theorem mt_127 : Cond.code ({ cls := "UnitTurns$Setup", name := "addKind", desc := "(IIII)I" } : MethodName) prog_8_method_5_code (5 : Nat) (Option.some FieldType.int) ∈ hs_tbl := List.mem_filter.mpr ⟨List.mem_of_getElem? (i := 396) (by decide +kernel), by decide +kernel⟩
theorem mt_128 : Cond.methodLink "UnitTurns" (69 : Nat) ({ cls := "UnitTurns$Setup", name := "addKind", desc := "(IIII)I" } : MethodName) ∈ hs_tbl := List.mem_filter.mpr ⟨List.mem_of_getElem? (i := 393) (by decide +kernel), by decide +kernel⟩
theorem mt_129 : Cond.instanceMethod ({ cls := "UnitTurns$Setup", name := "addKind", desc := "(IIII)I" } : MethodName) ∈ hs_tbl := List.mem_filter.mpr ⟨List.mem_of_getElem? (i := 394) (by decide +kernel), by decide +kernel⟩
theorem mt_130 : Cond.selects "UnitTurns$Setup" ({ cls := "UnitTurns$Setup", name := "addKind", desc := "(IIII)I" } : MethodName) ({ cls := "UnitTurns$Setup", name := "addKind", desc := "(IIII)I" } : MethodName) ∈ hs_tbl := List.mem_filter.mpr ⟨List.mem_of_getElem? (i := 395) (by decide +kernel), by decide +kernel⟩
theorem mv_X8_69 : hs_MV RX8 69 yX6_addKind cX6_addKind 5 (some .int) 4 6 := ⟨⟨mt_127, mt_123, mt_128, ⟨by decide +kernel, by decide +kernel, by decide +kernel⟩, by decide⟩, mt_129, mt_130, ⟨_, rfl, rfl⟩⟩
theorem mt_131 : Cond.code ({ cls := "UnitTurns", name := "settled", desc := "(I)I" } : MethodName) prog_1_method_23_code (2 : Nat) (Option.some FieldType.int) ∈ hs_tbl := List.mem_filter.mpr ⟨List.mem_of_getElem? (i := 403) (by decide +kernel), by decide +kernel⟩
theorem mt_132 : Cond.initialized "UnitTurns" ∈ hs_tbl := List.mem_filter.mpr ⟨List.mem_of_getElem? (i := 92) (by decide +kernel), by decide +kernel⟩
theorem mt_133 : Cond.methodLink "UnitTurns" (73 : Nat) ({ cls := "UnitTurns", name := "settled", desc := "(I)I" } : MethodName) ∈ hs_tbl := List.mem_filter.mpr ⟨List.mem_of_getElem? (i := 400) (by decide +kernel), by decide +kernel⟩
theorem mt_134 : Cond.instanceMethod ({ cls := "UnitTurns", name := "settled", desc := "(I)I" } : MethodName) ∈ hs_tbl := List.mem_filter.mpr ⟨List.mem_of_getElem? (i := 402) (by decide +kernel), by decide +kernel⟩
theorem mt_135 : Cond.selects "UnitTurns" ⟨"UnitTurns", "settled", "(I)I"⟩ ⟨"UnitTurns", "settled", "(I)I"⟩ ∈ hs_tbl := List.mem_filter.mpr ⟨List.mem_of_getElem? (i := 0) (by decide +kernel), by decide +kernel⟩
theorem mv_X8_73 : hs_MV RX8 73 yX8_settled cX8_settled 2 (some .int) 1 8 := ⟨⟨mt_131, mt_132, mt_133, ⟨by decide +kernel, by decide +kernel, by decide +kernel⟩, by decide⟩, mt_134, mt_135, ⟨_, rfl, rfl⟩⟩
theorem mt_136 : Cond.code ({ cls := "UnitTurns$Setup", name := "change", desc := "(II)I" } : MethodName) prog_8_method_6_code (4 : Nat) (Option.some FieldType.int) ∈ hs_tbl := List.mem_filter.mpr ⟨List.mem_of_getElem? (i := 424) (by decide +kernel), by decide +kernel⟩
theorem mt_137 : Cond.methodLink "UnitTurns" (77 : Nat) ({ cls := "UnitTurns$Setup", name := "change", desc := "(II)I" } : MethodName) ∈ hs_tbl := List.mem_filter.mpr ⟨List.mem_of_getElem? (i := 421) (by decide +kernel), by decide +kernel⟩
theorem mt_138 : Cond.instanceMethod ({ cls := "UnitTurns$Setup", name := "change", desc := "(II)I" } : MethodName) ∈ hs_tbl := List.mem_filter.mpr ⟨List.mem_of_getElem? (i := 422) (by decide +kernel), by decide +kernel⟩
theorem mt_139 : Cond.selects "UnitTurns$Setup" ({ cls := "UnitTurns$Setup", name := "change", desc := "(II)I" } : MethodName) ({ cls := "UnitTurns$Setup", name := "change", desc := "(II)I" } : MethodName) ∈ hs_tbl := List.mem_filter.mpr ⟨List.mem_of_getElem? (i := 423) (by decide +kernel), by decide +kernel⟩
theorem mv_X8_77 : hs_MV RX8 77 yX6_change cX6_change 4 (some .int) 2 6 := ⟨⟨mt_136, mt_123, mt_137, ⟨by decide +kernel, by decide +kernel, by decide +kernel⟩, by decide⟩, mt_138, mt_139, ⟨_, rfl, rfl⟩⟩
theorem mt_140 : Cond.code ({ cls := "UnitTurns$Setup", name := "hasKind", desc := "(I)Z" } : MethodName) prog_8_method_3_code (2 : Nat) (Option.some FieldType.boolean) ∈ hs_tbl := List.mem_filter.mpr ⟨List.mem_of_getElem? (i := 432) (by decide +kernel), by decide +kernel⟩
theorem mt_141 : Cond.methodLink "UnitTurns" (81 : Nat) ({ cls := "UnitTurns$Setup", name := "hasKind", desc := "(I)Z" } : MethodName) ∈ hs_tbl := List.mem_filter.mpr ⟨List.mem_of_getElem? (i := 429) (by decide +kernel), by decide +kernel⟩
theorem mt_142 : Cond.instanceMethod ({ cls := "UnitTurns$Setup", name := "hasKind", desc := "(I)Z" } : MethodName) ∈ hs_tbl := List.mem_filter.mpr ⟨List.mem_of_getElem? (i := 430) (by decide +kernel), by decide +kernel⟩
theorem mt_143 : Cond.selects "UnitTurns$Setup" ({ cls := "UnitTurns$Setup", name := "hasKind", desc := "(I)Z" } : MethodName) ({ cls := "UnitTurns$Setup", name := "hasKind", desc := "(I)Z" } : MethodName) ∈ hs_tbl := List.mem_filter.mpr ⟨List.mem_of_getElem? (i := 431) (by decide +kernel), by decide +kernel⟩
theorem mv_X8_81 : hs_MV RX8 81 yX6_hasKind cX6_hasKind 2 (some .boolean) 1 6 := ⟨⟨mt_140, mt_123, mt_141, ⟨by decide +kernel, by decide +kernel, by decide +kernel⟩, by decide⟩, mt_142, mt_143, ⟨_, rfl, rfl⟩⟩
theorem mt_144 : Cond.code ({ cls := "UnitTurns", name := "counted", desc := "(I)I" } : MethodName) prog_1_method_24_code (2 : Nat) (Option.some FieldType.int) ∈ hs_tbl := List.mem_filter.mpr ⟨List.mem_of_getElem? (i := 407) (by decide +kernel), by decide +kernel⟩
theorem mt_145 : Cond.methodLink "UnitTurns" (85 : Nat) ({ cls := "UnitTurns", name := "counted", desc := "(I)I" } : MethodName) ∈ hs_tbl := List.mem_filter.mpr ⟨List.mem_of_getElem? (i := 404) (by decide +kernel), by decide +kernel⟩
theorem mt_146 : Cond.instanceMethod ({ cls := "UnitTurns", name := "counted", desc := "(I)I" } : MethodName) ∈ hs_tbl := List.mem_filter.mpr ⟨List.mem_of_getElem? (i := 406) (by decide +kernel), by decide +kernel⟩
theorem mt_147 : Cond.selects "UnitTurns" ⟨"UnitTurns", "counted", "(I)I"⟩ ⟨"UnitTurns", "counted", "(I)I"⟩ ∈ hs_tbl := List.mem_filter.mpr ⟨List.mem_of_getElem? (i := 1) (by decide +kernel), by decide +kernel⟩
theorem mv_X8_85 : hs_MV RX8 85 yX8_counted cX8_counted 2 (some .int) 1 8 := ⟨⟨mt_144, mt_132, mt_145, ⟨by decide +kernel, by decide +kernel, by decide +kernel⟩, by decide⟩, mt_146, mt_147, ⟨_, rfl, rfl⟩⟩
theorem mt_148 : Cond.code ({ cls := "UnitTurns", name := "kindFact", desc := "(II)I" } : MethodName) prog_1_method_26_code (3 : Nat) (Option.some FieldType.int) ∈ hs_tbl := List.mem_filter.mpr ⟨List.mem_of_getElem? (i := 436) (by decide +kernel), by decide +kernel⟩
theorem mt_149 : Cond.methodLink "UnitTurns" (88 : Nat) ({ cls := "UnitTurns", name := "kindFact", desc := "(II)I" } : MethodName) ∈ hs_tbl := List.mem_filter.mpr ⟨List.mem_of_getElem? (i := 433) (by decide +kernel), by decide +kernel⟩
theorem mt_150 : Cond.instanceMethod ({ cls := "UnitTurns", name := "kindFact", desc := "(II)I" } : MethodName) ∈ hs_tbl := List.mem_filter.mpr ⟨List.mem_of_getElem? (i := 435) (by decide +kernel), by decide +kernel⟩
theorem mt_151 : Cond.selects "UnitTurns" ⟨"UnitTurns", "kindFact", "(II)I"⟩ ⟨"UnitTurns", "kindFact", "(II)I"⟩ ∈ hs_tbl := List.mem_filter.mpr ⟨List.mem_of_getElem? (i := 3) (by decide +kernel), by decide +kernel⟩
theorem mv_X8_88 : hs_MV RX8 88 yX8_kindFact cX8_kindFact 3 (some .int) 2 8 := ⟨⟨mt_148, mt_132, mt_149, ⟨by decide +kernel, by decide +kernel, by decide +kernel⟩, by decide⟩, mt_150, mt_151, ⟨_, rfl, rfl⟩⟩
theorem mt_152 : Cond.code ({ cls := "UnitTurns$Chart", name := "learn", desc := "(LUnitTurns$Setup;)V" } : MethodName) prog_3_method_2_code (2 : Nat) (Option.none : Option FieldType) ∈ hs_tbl := List.mem_filter.mpr ⟨List.mem_of_getElem? (i := 451) (by decide +kernel), by decide +kernel⟩
theorem mt_153 : Cond.initialized "UnitTurns$Chart" ∈ hs_tbl := List.mem_filter.mpr ⟨List.mem_of_getElem? (i := 95) (by decide +kernel), by decide +kernel⟩
theorem mt_154 : Cond.methodLink "UnitTurns" (91 : Nat) ({ cls := "UnitTurns$Chart", name := "learn", desc := "(LUnitTurns$Setup;)V" } : MethodName) ∈ hs_tbl := List.mem_filter.mpr ⟨List.mem_of_getElem? (i := 448) (by decide +kernel), by decide +kernel⟩
theorem mt_155 : Cond.instanceMethod ({ cls := "UnitTurns$Chart", name := "learn", desc := "(LUnitTurns$Setup;)V" } : MethodName) ∈ hs_tbl := List.mem_filter.mpr ⟨List.mem_of_getElem? (i := 449) (by decide +kernel), by decide +kernel⟩
theorem mt_156 : Cond.selects "UnitTurns$Chart" ({ cls := "UnitTurns$Chart", name := "learn", desc := "(LUnitTurns$Setup;)V" } : MethodName) ({ cls := "UnitTurns$Chart", name := "learn", desc := "(LUnitTurns$Setup;)V" } : MethodName) ∈ hs_tbl := List.mem_filter.mpr ⟨List.mem_of_getElem? (i := 450) (by decide +kernel), by decide +kernel⟩
theorem mv_X8_91 : hs_MV RX8 91 yX1_learn cX1_learn 2 none 1 1 := ⟨⟨mt_152, mt_153, mt_154, ⟨by decide +kernel, by decide +kernel, by decide +kernel⟩, by decide⟩, mt_155, mt_156, ⟨_, rfl, rfl⟩⟩
theorem mt_157 : Cond.code ({ cls := "UnitTurns$Chart", name := "statesOrMuch", desc := "()I" } : MethodName) prog_3_method_3_code (1 : Nat) (Option.some FieldType.int) ∈ hs_tbl := List.mem_filter.mpr ⟨List.mem_of_getElem? (i := 481) (by decide +kernel), by decide +kernel⟩
theorem mt_158 : Cond.methodLink "UnitTurns" (94 : Nat) ({ cls := "UnitTurns$Chart", name := "statesOrMuch", desc := "()I" } : MethodName) ∈ hs_tbl := List.mem_filter.mpr ⟨List.mem_of_getElem? (i := 478) (by decide +kernel), by decide +kernel⟩
theorem mt_159 : Cond.instanceMethod ({ cls := "UnitTurns$Chart", name := "statesOrMuch", desc := "()I" } : MethodName) ∈ hs_tbl := List.mem_filter.mpr ⟨List.mem_of_getElem? (i := 479) (by decide +kernel), by decide +kernel⟩
theorem mt_160 : Cond.selects "UnitTurns$Chart" ({ cls := "UnitTurns$Chart", name := "statesOrMuch", desc := "()I" } : MethodName) ({ cls := "UnitTurns$Chart", name := "statesOrMuch", desc := "()I" } : MethodName) ∈ hs_tbl := List.mem_filter.mpr ⟨List.mem_of_getElem? (i := 480) (by decide +kernel), by decide +kernel⟩
theorem mv_X8_94 : hs_MV RX8 94 yX1_statesOrMuch cX1_statesOrMuch 1 (some .int) 0 1 := ⟨⟨mt_157, mt_153, mt_158, ⟨by decide +kernel, by decide +kernel, by decide +kernel⟩, by decide⟩, mt_159, mt_160, ⟨_, rfl, rfl⟩⟩
theorem mt_161 : Cond.code ({ cls := "UnitTurns$Chart", name := "hasState", desc := "(I)Z" } : MethodName) prog_3_method_5_code (2 : Nat) (Option.some FieldType.boolean) ∈ hs_tbl := List.mem_filter.mpr ⟨List.mem_of_getElem? (i := 489) (by decide +kernel), by decide +kernel⟩
theorem mt_162 : Cond.methodLink "UnitTurns" (106 : Nat) ({ cls := "UnitTurns$Chart", name := "hasState", desc := "(I)Z" } : MethodName) ∈ hs_tbl := List.mem_filter.mpr ⟨List.mem_of_getElem? (i := 486) (by decide +kernel), by decide +kernel⟩
theorem mt_163 : Cond.instanceMethod ({ cls := "UnitTurns$Chart", name := "hasState", desc := "(I)Z" } : MethodName) ∈ hs_tbl := List.mem_filter.mpr ⟨List.mem_of_getElem? (i := 487) (by decide +kernel), by decide +kernel⟩
theorem mt_164 : Cond.selects "UnitTurns$Chart" ({ cls := "UnitTurns$Chart", name := "hasState", desc := "(I)Z" } : MethodName) ({ cls := "UnitTurns$Chart", name := "hasState", desc := "(I)Z" } : MethodName) ∈ hs_tbl := List.mem_filter.mpr ⟨List.mem_of_getElem? (i := 488) (by decide +kernel), by decide +kernel⟩
theorem mv_X8_106 : hs_MV RX8 106 yX1_hasState cX1_hasState 2 (some .boolean) 1 1 := ⟨⟨mt_161, mt_153, mt_162, ⟨by decide +kernel, by decide +kernel, by decide +kernel⟩, by decide⟩, mt_163, mt_164, ⟨_, rfl, rfl⟩⟩
theorem mt_165 : Cond.code ({ cls := "UnitTurns$Chart", name := "stateFact", desc := "(LUnitTurns$Setup;II)I" } : MethodName) prog_3_method_7_code (6 : Nat) (Option.some FieldType.int) ∈ hs_tbl := List.mem_filter.mpr ⟨List.mem_of_getElem? (i := 493) (by decide +kernel), by decide +kernel⟩
theorem mt_166 : Cond.methodLink "UnitTurns" (109 : Nat) ({ cls := "UnitTurns$Chart", name := "stateFact", desc := "(LUnitTurns$Setup;II)I" } : MethodName) ∈ hs_tbl := List.mem_filter.mpr ⟨List.mem_of_getElem? (i := 490) (by decide +kernel), by decide +kernel⟩
theorem mt_167 : Cond.instanceMethod ({ cls := "UnitTurns$Chart", name := "stateFact", desc := "(LUnitTurns$Setup;II)I" } : MethodName) ∈ hs_tbl := List.mem_filter.mpr ⟨List.mem_of_getElem? (i := 491) (by decide +kernel), by decide +kernel⟩
theorem mt_168 : Cond.selects "UnitTurns$Chart" ({ cls := "UnitTurns$Chart", name := "stateFact", desc := "(LUnitTurns$Setup;II)I" } : MethodName) ({ cls := "UnitTurns$Chart", name := "stateFact", desc := "(LUnitTurns$Setup;II)I" } : MethodName) ∈ hs_tbl := List.mem_filter.mpr ⟨List.mem_of_getElem? (i := 492) (by decide +kernel), by decide +kernel⟩
theorem mv_X8_109 : hs_MV RX8 109 yX1_stateFact cX1_stateFact 6 (some .int) 3 1 := ⟨⟨mt_165, mt_153, mt_166, ⟨by decide +kernel, by decide +kernel, by decide +kernel⟩, by decide⟩, mt_167, mt_168, ⟨_, rfl, rfl⟩⟩
theorem mt_169 : Cond.code ({ cls := "UnitTurns$Chart", name := "classesOrMuch", desc := "()I" } : MethodName) prog_3_method_4_code (1 : Nat) (Option.some FieldType.int) ∈ hs_tbl := List.mem_filter.mpr ⟨List.mem_of_getElem? (i := 502) (by decide +kernel), by decide +kernel⟩
theorem mt_170 : Cond.methodLink "UnitTurns" (113 : Nat) ({ cls := "UnitTurns$Chart", name := "classesOrMuch", desc := "()I" } : MethodName) ∈ hs_tbl := List.mem_filter.mpr ⟨List.mem_of_getElem? (i := 499) (by decide +kernel), by decide +kernel⟩
theorem mt_171 : Cond.instanceMethod ({ cls := "UnitTurns$Chart", name := "classesOrMuch", desc := "()I" } : MethodName) ∈ hs_tbl := List.mem_filter.mpr ⟨List.mem_of_getElem? (i := 500) (by decide +kernel), by decide +kernel⟩
theorem mt_172 : Cond.selects "UnitTurns$Chart" ({ cls := "UnitTurns$Chart", name := "classesOrMuch", desc := "()I" } : MethodName) ({ cls := "UnitTurns$Chart", name := "classesOrMuch", desc := "()I" } : MethodName) ∈ hs_tbl := List.mem_filter.mpr ⟨List.mem_of_getElem? (i := 501) (by decide +kernel), by decide +kernel⟩
theorem mv_X8_113 : hs_MV RX8 113 yX1_classesOrMuch cX1_classesOrMuch 1 (some .int) 0 1 := ⟨⟨mt_169, mt_153, mt_170, ⟨by decide +kernel, by decide +kernel, by decide +kernel⟩, by decide⟩, mt_171, mt_172, ⟨_, rfl, rfl⟩⟩
theorem mt_173 : Cond.code ({ cls := "UnitTurns$Chart", name := "sameClass", desc := "(II)Z" } : MethodName) prog_3_method_6_code (3 : Nat) (Option.some FieldType.boolean) ∈ hs_tbl := List.mem_filter.mpr ⟨List.mem_of_getElem? (i := 510) (by decide +kernel), by decide +kernel⟩
theorem mt_174 : Cond.methodLink "UnitTurns" (116 : Nat) ({ cls := "UnitTurns$Chart", name := "sameClass", desc := "(II)Z" } : MethodName) ∈ hs_tbl := List.mem_filter.mpr ⟨List.mem_of_getElem? (i := 507) (by decide +kernel), by decide +kernel⟩
theorem mt_175 : Cond.instanceMethod ({ cls := "UnitTurns$Chart", name := "sameClass", desc := "(II)Z" } : MethodName) ∈ hs_tbl := List.mem_filter.mpr ⟨List.mem_of_getElem? (i := 508) (by decide +kernel), by decide +kernel⟩
theorem mt_176 : Cond.selects "UnitTurns$Chart" ({ cls := "UnitTurns$Chart", name := "sameClass", desc := "(II)Z" } : MethodName) ({ cls := "UnitTurns$Chart", name := "sameClass", desc := "(II)Z" } : MethodName) ∈ hs_tbl := List.mem_filter.mpr ⟨List.mem_of_getElem? (i := 509) (by decide +kernel), by decide +kernel⟩
theorem mv_X8_116 : hs_MV RX8 116 yX1_sameClass cX1_sameClass 3 (some .boolean) 2 1 := ⟨⟨mt_173, mt_153, mt_174, ⟨by decide +kernel, by decide +kernel, by decide +kernel⟩, by decide⟩, mt_175, mt_176, ⟨_, rfl, rfl⟩⟩
theorem mt_177 : Cond.code ({ cls := "UnitTurns$Setup", name := "addInstruction", desc := "(I)I" } : MethodName) prog_8_method_7_code (2 : Nat) (Option.some FieldType.int) ∈ hs_tbl := List.mem_filter.mpr ⟨List.mem_of_getElem? (i := 518) (by decide +kernel), by decide +kernel⟩
theorem mt_178 : Cond.methodLink "UnitTurns" (120 : Nat) ({ cls := "UnitTurns$Setup", name := "addInstruction", desc := "(I)I" } : MethodName) ∈ hs_tbl := List.mem_filter.mpr ⟨List.mem_of_getElem? (i := 515) (by decide +kernel), by decide +kernel⟩
theorem mt_179 : Cond.instanceMethod ({ cls := "UnitTurns$Setup", name := "addInstruction", desc := "(I)I" } : MethodName) ∈ hs_tbl := List.mem_filter.mpr ⟨List.mem_of_getElem? (i := 516) (by decide +kernel), by decide +kernel⟩
theorem mt_180 : Cond.selects "UnitTurns$Setup" ({ cls := "UnitTurns$Setup", name := "addInstruction", desc := "(I)I" } : MethodName) ({ cls := "UnitTurns$Setup", name := "addInstruction", desc := "(I)I" } : MethodName) ∈ hs_tbl := List.mem_filter.mpr ⟨List.mem_of_getElem? (i := 517) (by decide +kernel), by decide +kernel⟩
theorem mv_X8_120 : hs_MV RX8 120 yX6_addInstruction cX6_addInstruction 2 (some .int) 1 6 := ⟨⟨mt_177, mt_123, mt_178, ⟨by decide +kernel, by decide +kernel, by decide +kernel⟩, by decide⟩, mt_179, mt_180, ⟨_, rfl, rfl⟩⟩
theorem mt_181 : Cond.code ({ cls := "UnitTurns$Setup", name := "changeNeed", desc := "(III)I" } : MethodName) prog_8_method_8_code (5 : Nat) (Option.some FieldType.int) ∈ hs_tbl := List.mem_filter.mpr ⟨List.mem_of_getElem? (i := 527) (by decide +kernel), by decide +kernel⟩
theorem mt_182 : Cond.methodLink "UnitTurns" (123 : Nat) ({ cls := "UnitTurns$Setup", name := "changeNeed", desc := "(III)I" } : MethodName) ∈ hs_tbl := List.mem_filter.mpr ⟨List.mem_of_getElem? (i := 524) (by decide +kernel), by decide +kernel⟩
theorem mt_183 : Cond.instanceMethod ({ cls := "UnitTurns$Setup", name := "changeNeed", desc := "(III)I" } : MethodName) ∈ hs_tbl := List.mem_filter.mpr ⟨List.mem_of_getElem? (i := 525) (by decide +kernel), by decide +kernel⟩
theorem mt_184 : Cond.selects "UnitTurns$Setup" ({ cls := "UnitTurns$Setup", name := "changeNeed", desc := "(III)I" } : MethodName) ({ cls := "UnitTurns$Setup", name := "changeNeed", desc := "(III)I" } : MethodName) ∈ hs_tbl := List.mem_filter.mpr ⟨List.mem_of_getElem? (i := 526) (by decide +kernel), by decide +kernel⟩
theorem mv_X8_123 : hs_MV RX8 123 yX6_changeNeed cX6_changeNeed 5 (some .int) 3 6 := ⟨⟨mt_181, mt_123, mt_182, ⟨by decide +kernel, by decide +kernel, by decide +kernel⟩, by decide⟩, mt_183, mt_184, ⟨_, rfl, rfl⟩⟩
theorem mt_185 : Cond.code ({ cls := "UnitTurns$Setup", name := "removeInstruction", desc := "(I)I" } : MethodName) prog_8_method_9_code (6 : Nat) (Option.some FieldType.int) ∈ hs_tbl := List.mem_filter.mpr ⟨List.mem_of_getElem? (i := 550) (by decide +kernel), by decide +kernel⟩
theorem mt_186 : Cond.methodLink "UnitTurns" (127 : Nat) ({ cls := "UnitTurns$Setup", name := "removeInstruction", desc := "(I)I" } : MethodName) ∈ hs_tbl := List.mem_filter.mpr ⟨List.mem_of_getElem? (i := 547) (by decide +kernel), by decide +kernel⟩
theorem mt_187 : Cond.instanceMethod ({ cls := "UnitTurns$Setup", name := "removeInstruction", desc := "(I)I" } : MethodName) ∈ hs_tbl := List.mem_filter.mpr ⟨List.mem_of_getElem? (i := 548) (by decide +kernel), by decide +kernel⟩
theorem mt_188 : Cond.selects "UnitTurns$Setup" ({ cls := "UnitTurns$Setup", name := "removeInstruction", desc := "(I)I" } : MethodName) ({ cls := "UnitTurns$Setup", name := "removeInstruction", desc := "(I)I" } : MethodName) ∈ hs_tbl := List.mem_filter.mpr ⟨List.mem_of_getElem? (i := 549) (by decide +kernel), by decide +kernel⟩
theorem mv_X8_127 : hs_MV RX8 127 yX6_removeInstruction cX6_removeInstruction 6 (some .int) 1 6 := ⟨⟨mt_185, mt_123, mt_186, ⟨by decide +kernel, by decide +kernel, by decide +kernel⟩, by decide⟩, mt_187, mt_188, ⟨_, rfl, rfl⟩⟩
theorem mt_189 : Cond.code ({ cls := "UnitTurns$Setup", name := "hasInstruction", desc := "(I)Z" } : MethodName) prog_8_method_4_code (2 : Nat) (Option.some FieldType.boolean) ∈ hs_tbl := List.mem_filter.mpr ⟨List.mem_of_getElem? (i := 531) (by decide +kernel), by decide +kernel⟩
theorem mt_190 : Cond.methodLink "UnitTurns" (130 : Nat) ({ cls := "UnitTurns$Setup", name := "hasInstruction", desc := "(I)Z" } : MethodName) ∈ hs_tbl := List.mem_filter.mpr ⟨List.mem_of_getElem? (i := 559) (by decide +kernel), by decide +kernel⟩
theorem mt_191 : Cond.instanceMethod ({ cls := "UnitTurns$Setup", name := "hasInstruction", desc := "(I)Z" } : MethodName) ∈ hs_tbl := List.mem_filter.mpr ⟨List.mem_of_getElem? (i := 529) (by decide +kernel), by decide +kernel⟩
theorem mt_192 : Cond.selects "UnitTurns$Setup" ({ cls := "UnitTurns$Setup", name := "hasInstruction", desc := "(I)Z" } : MethodName) ({ cls := "UnitTurns$Setup", name := "hasInstruction", desc := "(I)Z" } : MethodName) ∈ hs_tbl := List.mem_filter.mpr ⟨List.mem_of_getElem? (i := 530) (by decide +kernel), by decide +kernel⟩
theorem mv_X8_130 : hs_MV RX8 130 yX6_hasInstruction cX6_hasInstruction 2 (some .boolean) 1 6 := ⟨⟨mt_189, mt_123, mt_190, ⟨by decide +kernel, by decide +kernel, by decide +kernel⟩, by decide⟩, mt_191, mt_192, ⟨_, rfl, rfl⟩⟩
theorem mt_193 : Cond.code ({ cls := "UnitTurns", name := "instructionFact", desc := "(II)I" } : MethodName) prog_1_method_27_code (3 : Nat) (Option.some FieldType.int) ∈ hs_tbl := List.mem_filter.mpr ⟨List.mem_of_getElem? (i := 563) (by decide +kernel), by decide +kernel⟩
theorem mt_194 : Cond.methodLink "UnitTurns" (133 : Nat) ({ cls := "UnitTurns", name := "instructionFact", desc := "(II)I" } : MethodName) ∈ hs_tbl := List.mem_filter.mpr ⟨List.mem_of_getElem? (i := 560) (by decide +kernel), by decide +kernel⟩
theorem mt_195 : Cond.instanceMethod ({ cls := "UnitTurns", name := "instructionFact", desc := "(II)I" } : MethodName) ∈ hs_tbl := List.mem_filter.mpr ⟨List.mem_of_getElem? (i := 562) (by decide +kernel), by decide +kernel⟩
theorem mt_196 : Cond.selects "UnitTurns" ⟨"UnitTurns", "instructionFact", "(II)I"⟩ ⟨"UnitTurns", "instructionFact", "(II)I"⟩ ∈ hs_tbl := List.mem_filter.mpr ⟨List.mem_of_getElem? (i := 12) (by decide +kernel), by decide +kernel⟩
theorem mv_X8_133 : hs_MV RX8 133 yX8_instructionFact cX8_instructionFact 3 (some .int) 2 8 := ⟨⟨mt_193, mt_132, mt_194, ⟨by decide +kernel, by decide +kernel, by decide +kernel⟩, by decide⟩, mt_195, mt_196, ⟨_, rfl, rfl⟩⟩
theorem mt_197 : Cond.code ({ cls := "UnitTurns$Block", name := "learn", desc := "(LUnitTurns$Setup;)V" } : MethodName) prog_2_method_2_code (4 : Nat) (Option.none : Option FieldType) ∈ hs_tbl := List.mem_filter.mpr ⟨List.mem_of_getElem? (i := 567) (by decide +kernel), by decide +kernel⟩
theorem mt_198 : Cond.initialized "UnitTurns$Block" ∈ hs_tbl := List.mem_filter.mpr ⟨List.mem_of_getElem? (i := 96) (by decide +kernel), by decide +kernel⟩
theorem mt_199 : Cond.methodLink "UnitTurns" (136 : Nat) ({ cls := "UnitTurns$Block", name := "learn", desc := "(LUnitTurns$Setup;)V" } : MethodName) ∈ hs_tbl := List.mem_filter.mpr ⟨List.mem_of_getElem? (i := 564) (by decide +kernel), by decide +kernel⟩
theorem mt_200 : Cond.instanceMethod ({ cls := "UnitTurns$Block", name := "learn", desc := "(LUnitTurns$Setup;)V" } : MethodName) ∈ hs_tbl := List.mem_filter.mpr ⟨List.mem_of_getElem? (i := 565) (by decide +kernel), by decide +kernel⟩
theorem mt_201 : Cond.selects "UnitTurns$Block" ({ cls := "UnitTurns$Block", name := "learn", desc := "(LUnitTurns$Setup;)V" } : MethodName) ({ cls := "UnitTurns$Block", name := "learn", desc := "(LUnitTurns$Setup;)V" } : MethodName) ∈ hs_tbl := List.mem_filter.mpr ⟨List.mem_of_getElem? (i := 566) (by decide +kernel), by decide +kernel⟩
theorem mv_X8_136 : hs_MV RX8 136 yX0_learn cX0_learn 4 none 1 0 := ⟨⟨mt_197, mt_198, mt_199, ⟨by decide +kernel, by decide +kernel, by decide +kernel⟩, by decide⟩, mt_200, mt_201, ⟨_, rfl, rfl⟩⟩
theorem mt_202 : Cond.code ({ cls := "UnitTurns$Block", name := "leastLength", desc := "()I" } : MethodName) prog_2_method_3_code (5 : Nat) (Option.some FieldType.int) ∈ hs_tbl := List.mem_filter.mpr ⟨List.mem_of_getElem? (i := 598) (by decide +kernel), by decide +kernel⟩
theorem mt_203 : Cond.methodLink "UnitTurns" (137 : Nat) ({ cls := "UnitTurns$Block", name := "leastLength", desc := "()I" } : MethodName) ∈ hs_tbl := List.mem_filter.mpr ⟨List.mem_of_getElem? (i := 595) (by decide +kernel), by decide +kernel⟩
theorem mt_204 : Cond.instanceMethod ({ cls := "UnitTurns$Block", name := "leastLength", desc := "()I" } : MethodName) ∈ hs_tbl := List.mem_filter.mpr ⟨List.mem_of_getElem? (i := 596) (by decide +kernel), by decide +kernel⟩
theorem mt_205 : Cond.selects "UnitTurns$Block" ({ cls := "UnitTurns$Block", name := "leastLength", desc := "()I" } : MethodName) ({ cls := "UnitTurns$Block", name := "leastLength", desc := "()I" } : MethodName) ∈ hs_tbl := List.mem_filter.mpr ⟨List.mem_of_getElem? (i := 597) (by decide +kernel), by decide +kernel⟩
theorem mv_X8_137 : hs_MV RX8 137 yX0_leastLength cX0_leastLength 5 (some .int) 0 0 := ⟨⟨mt_202, mt_198, mt_203, ⟨by decide +kernel, by decide +kernel, by decide +kernel⟩, by decide⟩, mt_204, mt_205, ⟨_, rfl, rfl⟩⟩
theorem mt_206 : Cond.code ({ cls := "UnitTurns$Search", name := "learn", desc := "(LUnitTurns$Block;)V" } : MethodName) prog_7_method_2_code (3 : Nat) (Option.none : Option FieldType) ∈ hs_tbl := List.mem_filter.mpr ⟨List.mem_of_getElem? (i := 613) (by decide +kernel), by decide +kernel⟩
theorem mt_207 : Cond.initialized "UnitTurns$Search" ∈ hs_tbl := List.mem_filter.mpr ⟨List.mem_of_getElem? (i := 98) (by decide +kernel), by decide +kernel⟩
theorem mt_208 : Cond.methodLink "UnitTurns" (140 : Nat) ({ cls := "UnitTurns$Search", name := "learn", desc := "(LUnitTurns$Block;)V" } : MethodName) ∈ hs_tbl := List.mem_filter.mpr ⟨List.mem_of_getElem? (i := 610) (by decide +kernel), by decide +kernel⟩
theorem mt_209 : Cond.instanceMethod ({ cls := "UnitTurns$Search", name := "learn", desc := "(LUnitTurns$Block;)V" } : MethodName) ∈ hs_tbl := List.mem_filter.mpr ⟨List.mem_of_getElem? (i := 611) (by decide +kernel), by decide +kernel⟩
theorem mt_210 : Cond.selects "UnitTurns$Search" ({ cls := "UnitTurns$Search", name := "learn", desc := "(LUnitTurns$Block;)V" } : MethodName) ({ cls := "UnitTurns$Search", name := "learn", desc := "(LUnitTurns$Block;)V" } : MethodName) ∈ hs_tbl := List.mem_filter.mpr ⟨List.mem_of_getElem? (i := 612) (by decide +kernel), by decide +kernel⟩
theorem mv_X8_140 : hs_MV RX8 140 yX5_learn cX5_learn 3 none 1 5 := ⟨⟨mt_206, mt_207, mt_208, ⟨by decide +kernel, by decide +kernel, by decide +kernel⟩, by decide⟩, mt_209, mt_210, ⟨_, rfl, rfl⟩⟩
theorem mt_211 : Cond.code ({ cls := "UnitTurns", name := "rankedLength", desc := "(I)I" } : MethodName) prog_1_method_28_code (2 : Nat) (Option.some FieldType.int) ∈ hs_tbl := List.mem_filter.mpr ⟨List.mem_of_getElem? (i := 705) (by decide +kernel), by decide +kernel⟩
theorem mt_212 : Cond.methodLink "UnitTurns" (149 : Nat) ({ cls := "UnitTurns", name := "rankedLength", desc := "(I)I" } : MethodName) ∈ hs_tbl := List.mem_filter.mpr ⟨List.mem_of_getElem? (i := 702) (by decide +kernel), by decide +kernel⟩
theorem mt_213 : Cond.instanceMethod ({ cls := "UnitTurns", name := "rankedLength", desc := "(I)I" } : MethodName) ∈ hs_tbl := List.mem_filter.mpr ⟨List.mem_of_getElem? (i := 704) (by decide +kernel), by decide +kernel⟩
theorem mt_214 : Cond.selects "UnitTurns" ⟨"UnitTurns", "rankedLength", "(I)I"⟩ ⟨"UnitTurns", "rankedLength", "(I)I"⟩ ∈ hs_tbl := List.mem_filter.mpr ⟨List.mem_of_getElem? (i := 28) (by decide +kernel), by decide +kernel⟩
theorem mv_X8_149 : hs_MV RX8 149 yX8_rankedLength cX8_rankedLength 2 (some .int) 1 8 := ⟨⟨mt_211, mt_132, mt_212, ⟨by decide +kernel, by decide +kernel, by decide +kernel⟩, by decide⟩, mt_213, mt_214, ⟨_, rfl, rfl⟩⟩
theorem mt_215 : Cond.code ({ cls := "UnitTurns", name := "powerOfTen", desc := "(I)I" } : MethodName) prog_1_method_32_code (3 : Nat) (Option.some FieldType.int) ∈ hs_tbl := List.mem_filter.mpr ⟨List.mem_of_getElem? (i := 745) (by decide +kernel), by decide +kernel⟩
theorem mt_216 : Cond.methodLink "UnitTurns" (156 : Nat) ({ cls := "UnitTurns", name := "powerOfTen", desc := "(I)I" } : MethodName) ∈ hs_tbl := List.mem_filter.mpr ⟨List.mem_of_getElem? (i := 743) (by decide +kernel), by decide +kernel⟩
theorem mt_217 : Cond.static ({ cls := "UnitTurns", name := "powerOfTen", desc := "(I)I" } : MethodName) ∈ hs_tbl := List.mem_filter.mpr ⟨List.mem_of_getElem? (i := 744) (by decide +kernel), by decide +kernel⟩
theorem ms_X8_156 : hs_MS RX8 156 yX8_powerOfTen cX8_powerOfTen 3 (some .int) 1 := ⟨⟨mt_215, mt_132, mt_216, ⟨by decide +kernel, by decide +kernel, by decide +kernel⟩, by decide⟩, mt_217⟩
theorem mt_218 : Cond.code ({ cls := "UnitTurns$Block", name := "lengthByFigures", desc := "(I)I" } : MethodName) prog_2_method_5_code (4 : Nat) (Option.some FieldType.int) ∈ hs_tbl := List.mem_filter.mpr ⟨List.mem_of_getElem? (i := 749) (by decide +kernel), by decide +kernel⟩
theorem mt_219 : Cond.methodLink "UnitTurns" (159 : Nat) ({ cls := "UnitTurns$Block", name := "lengthByFigures", desc := "(I)I" } : MethodName) ∈ hs_tbl := List.mem_filter.mpr ⟨List.mem_of_getElem? (i := 746) (by decide +kernel), by decide +kernel⟩
theorem mt_220 : Cond.instanceMethod ({ cls := "UnitTurns$Block", name := "lengthByFigures", desc := "(I)I" } : MethodName) ∈ hs_tbl := List.mem_filter.mpr ⟨List.mem_of_getElem? (i := 747) (by decide +kernel), by decide +kernel⟩
theorem mt_221 : Cond.selects "UnitTurns$Block" ({ cls := "UnitTurns$Block", name := "lengthByFigures", desc := "(I)I" } : MethodName) ({ cls := "UnitTurns$Block", name := "lengthByFigures", desc := "(I)I" } : MethodName) ∈ hs_tbl := List.mem_filter.mpr ⟨List.mem_of_getElem? (i := 748) (by decide +kernel), by decide +kernel⟩
theorem mv_X8_159 : hs_MV RX8 159 yX0_lengthByFigures cX0_lengthByFigures 4 (some .int) 1 0 := ⟨⟨mt_218, mt_198, mt_219, ⟨by decide +kernel, by decide +kernel, by decide +kernel⟩, by decide⟩, mt_220, mt_221, ⟨_, rfl, rfl⟩⟩
theorem mt_222 : Cond.code ({ cls := "UnitTurns$Script", name := "append", desc := "(I)I" } : MethodName) prog_6_method_2_code (2 : Nat) (Option.some FieldType.int) ∈ hs_tbl := List.mem_filter.mpr ⟨List.mem_of_getElem? (i := 763) (by decide +kernel), by decide +kernel⟩
theorem mt_223 : Cond.initialized "UnitTurns$Script" ∈ hs_tbl := List.mem_filter.mpr ⟨List.mem_of_getElem? (i := 100) (by decide +kernel), by decide +kernel⟩
theorem mt_224 : Cond.methodLink "UnitTurns" (163 : Nat) ({ cls := "UnitTurns$Script", name := "append", desc := "(I)I" } : MethodName) ∈ hs_tbl := List.mem_filter.mpr ⟨List.mem_of_getElem? (i := 760) (by decide +kernel), by decide +kernel⟩
theorem mt_225 : Cond.instanceMethod ({ cls := "UnitTurns$Script", name := "append", desc := "(I)I" } : MethodName) ∈ hs_tbl := List.mem_filter.mpr ⟨List.mem_of_getElem? (i := 761) (by decide +kernel), by decide +kernel⟩
theorem mt_226 : Cond.selects "UnitTurns$Script" ({ cls := "UnitTurns$Script", name := "append", desc := "(I)I" } : MethodName) ({ cls := "UnitTurns$Script", name := "append", desc := "(I)I" } : MethodName) ∈ hs_tbl := List.mem_filter.mpr ⟨List.mem_of_getElem? (i := 762) (by decide +kernel), by decide +kernel⟩
theorem mv_X8_163 : hs_MV RX8 163 yX4_append cX4_append 2 (some .int) 1 4 := ⟨⟨mt_222, mt_223, mt_224, ⟨by decide +kernel, by decide +kernel, by decide +kernel⟩, by decide⟩, mt_225, mt_226, ⟨_, rfl, rfl⟩⟩
theorem mt_227 : Cond.code ({ cls := "UnitTurns$Script", name := "empty", desc := "()I" } : MethodName) prog_6_method_3_code (2 : Nat) (Option.some FieldType.int) ∈ hs_tbl := List.mem_filter.mpr ⟨List.mem_of_getElem? (i := 771) (by decide +kernel), by decide +kernel⟩
theorem mt_228 : Cond.methodLink "UnitTurns" (166 : Nat) ({ cls := "UnitTurns$Script", name := "empty", desc := "()I" } : MethodName) ∈ hs_tbl := List.mem_filter.mpr ⟨List.mem_of_getElem? (i := 768) (by decide +kernel), by decide +kernel⟩
theorem mt_229 : Cond.instanceMethod ({ cls := "UnitTurns$Script", name := "empty", desc := "()I" } : MethodName) ∈ hs_tbl := List.mem_filter.mpr ⟨List.mem_of_getElem? (i := 769) (by decide +kernel), by decide +kernel⟩
theorem mt_230 : Cond.selects "UnitTurns$Script" ({ cls := "UnitTurns$Script", name := "empty", desc := "()I" } : MethodName) ({ cls := "UnitTurns$Script", name := "empty", desc := "()I" } : MethodName) ∈ hs_tbl := List.mem_filter.mpr ⟨List.mem_of_getElem? (i := 770) (by decide +kernel), by decide +kernel⟩
theorem mv_X8_166 : hs_MV RX8 166 yX4_empty cX4_empty 2 (some .int) 0 4 := ⟨⟨mt_227, mt_223, mt_228, ⟨by decide +kernel, by decide +kernel, by decide +kernel⟩, by decide⟩, mt_229, mt_230, ⟨_, rfl, rfl⟩⟩
theorem mt_231 : Cond.code ({ cls := "UnitTurns$Script", name := "scan", desc := "()I" } : MethodName) prog_6_method_4_code (1 : Nat) (Option.some FieldType.int) ∈ hs_tbl := List.mem_filter.mpr ⟨List.mem_of_getElem? (i := 779) (by decide +kernel), by decide +kernel⟩
theorem mt_232 : Cond.methodLink "UnitTurns" (169 : Nat) ({ cls := "UnitTurns$Script", name := "scan", desc := "()I" } : MethodName) ∈ hs_tbl := List.mem_filter.mpr ⟨List.mem_of_getElem? (i := 776) (by decide +kernel), by decide +kernel⟩
theorem mt_233 : Cond.instanceMethod ({ cls := "UnitTurns$Script", name := "scan", desc := "()I" } : MethodName) ∈ hs_tbl := List.mem_filter.mpr ⟨List.mem_of_getElem? (i := 777) (by decide +kernel), by decide +kernel⟩
theorem mt_234 : Cond.selects "UnitTurns$Script" ({ cls := "UnitTurns$Script", name := "scan", desc := "()I" } : MethodName) ({ cls := "UnitTurns$Script", name := "scan", desc := "()I" } : MethodName) ∈ hs_tbl := List.mem_filter.mpr ⟨List.mem_of_getElem? (i := 778) (by decide +kernel), by decide +kernel⟩
theorem mv_X8_169 : hs_MV RX8 169 yX4_scan cX4_scan 1 (some .int) 0 4 := ⟨⟨mt_231, mt_223, mt_232, ⟨by decide +kernel, by decide +kernel, by decide +kernel⟩, by decide⟩, mt_233, mt_234, ⟨_, rfl, rfl⟩⟩
theorem mt_235 : Cond.code ({ cls := "UnitTurns$Script", name := "perform", desc := "(ILUnitTurns$Setup;)I" } : MethodName) prog_6_method_5_code (4 : Nat) (Option.some FieldType.int) ∈ hs_tbl := List.mem_filter.mpr ⟨List.mem_of_getElem? (i := 806) (by decide +kernel), by decide +kernel⟩
theorem mt_236 : Cond.methodLink "UnitTurns" (175 : Nat) ({ cls := "UnitTurns$Script", name := "perform", desc := "(ILUnitTurns$Setup;)I" } : MethodName) ∈ hs_tbl := List.mem_filter.mpr ⟨List.mem_of_getElem? (i := 803) (by decide +kernel), by decide +kernel⟩
theorem mt_237 : Cond.instanceMethod ({ cls := "UnitTurns$Script", name := "perform", desc := "(ILUnitTurns$Setup;)I" } : MethodName) ∈ hs_tbl := List.mem_filter.mpr ⟨List.mem_of_getElem? (i := 804) (by decide +kernel), by decide +kernel⟩
theorem mt_238 : Cond.selects "UnitTurns$Script" ({ cls := "UnitTurns$Script", name := "perform", desc := "(ILUnitTurns$Setup;)I" } : MethodName) ({ cls := "UnitTurns$Script", name := "perform", desc := "(ILUnitTurns$Setup;)I" } : MethodName) ∈ hs_tbl := List.mem_filter.mpr ⟨List.mem_of_getElem? (i := 805) (by decide +kernel), by decide +kernel⟩
theorem mv_X8_175 : hs_MV RX8 175 yX4_perform cX4_perform 4 (some .int) 2 4 := ⟨⟨mt_235, mt_223, mt_236, ⟨by decide +kernel, by decide +kernel, by decide +kernel⟩, by decide⟩, mt_237, mt_238, ⟨_, rfl, rfl⟩⟩
theorem mt_239 : Cond.code ({ cls := "UnitTurns$Trail", name := "takeInto", desc := "(LUnitTurns$Setup;)Z" } : MethodName) prog_9_method_3_code (2 : Nat) (Option.some FieldType.boolean) ∈ hs_tbl := List.mem_filter.mpr ⟨List.mem_of_getElem? (i := 819) (by decide +kernel), by decide +kernel⟩
theorem mt_240 : Cond.initialized "UnitTurns$Trail" ∈ hs_tbl := List.mem_filter.mpr ⟨List.mem_of_getElem? (i := 94) (by decide +kernel), by decide +kernel⟩
theorem mt_241 : Cond.methodLink "UnitTurns" (179 : Nat) ({ cls := "UnitTurns$Trail", name := "takeInto", desc := "(LUnitTurns$Setup;)Z" } : MethodName) ∈ hs_tbl := List.mem_filter.mpr ⟨List.mem_of_getElem? (i := 816) (by decide +kernel), by decide +kernel⟩
theorem mt_242 : Cond.instanceMethod ({ cls := "UnitTurns$Trail", name := "takeInto", desc := "(LUnitTurns$Setup;)Z" } : MethodName) ∈ hs_tbl := List.mem_filter.mpr ⟨List.mem_of_getElem? (i := 817) (by decide +kernel), by decide +kernel⟩
theorem mt_243 : Cond.selects "UnitTurns$Trail" ({ cls := "UnitTurns$Trail", name := "takeInto", desc := "(LUnitTurns$Setup;)Z" } : MethodName) ({ cls := "UnitTurns$Trail", name := "takeInto", desc := "(LUnitTurns$Setup;)Z" } : MethodName) ∈ hs_tbl := List.mem_filter.mpr ⟨List.mem_of_getElem? (i := 818) (by decide +kernel), by decide +kernel⟩
theorem mv_X8_179 : hs_MV RX8 179 yX7_takeInto cX7_takeInto 2 (some .boolean) 1 7 := ⟨⟨mt_239, mt_240, mt_241, ⟨by decide +kernel, by decide +kernel, by decide +kernel⟩, by decide⟩, mt_242, mt_243, ⟨_, rfl, rfl⟩⟩
theorem mt_244 : Cond.code ({ cls := "UnitTurns", name := "forgetAnswers", desc := "()V" } : MethodName) prog_1_method_25_code (1 : Nat) (Option.none : Option FieldType) ∈ hs_tbl := List.mem_filter.mpr ⟨List.mem_of_getElem? (i := 416) (by decide +kernel), by decide +kernel⟩
theorem mt_245 : Cond.methodLink "UnitTurns" (183 : Nat) ({ cls := "UnitTurns", name := "forgetAnswers", desc := "()V" } : MethodName) ∈ hs_tbl := List.mem_filter.mpr ⟨List.mem_of_getElem? (i := 413) (by decide +kernel), by decide +kernel⟩
theorem mt_246 : Cond.instanceMethod ({ cls := "UnitTurns", name := "forgetAnswers", desc := "()V" } : MethodName) ∈ hs_tbl := List.mem_filter.mpr ⟨List.mem_of_getElem? (i := 415) (by decide +kernel), by decide +kernel⟩
theorem mt_247 : Cond.selects "UnitTurns" ⟨"UnitTurns", "forgetAnswers", "()V"⟩ ⟨"UnitTurns", "forgetAnswers", "()V"⟩ ∈ hs_tbl := List.mem_filter.mpr ⟨List.mem_of_getElem? (i := 2) (by decide +kernel), by decide +kernel⟩
theorem mv_X8_183 : hs_MV RX8 183 yX8_forgetAnswers cX8_forgetAnswers 1 none 0 8 := ⟨⟨mt_244, mt_132, mt_245, ⟨by decide +kernel, by decide +kernel, by decide +kernel⟩, by decide⟩, mt_246, mt_247, ⟨_, rfl, rfl⟩⟩
theorem mt_248 : Cond.code ({ cls := "UnitTurns", name := "figure", desc := "(I)I" } : MethodName) prog_1_method_29_code (2 : Nat) (Option.some FieldType.int) ∈ hs_tbl := List.mem_filter.mpr ⟨List.mem_of_getElem? (i := 827) (by decide +kernel), by decide +kernel⟩
theorem mt_249 : Cond.methodLink "UnitTurns" (189 : Nat) ({ cls := "UnitTurns", name := "figure", desc := "(I)I" } : MethodName) ∈ hs_tbl := List.mem_filter.mpr ⟨List.mem_of_getElem? (i := 824) (by decide +kernel), by decide +kernel⟩
theorem mt_250 : Cond.instanceMethod ({ cls := "UnitTurns", name := "figure", desc := "(I)I" } : MethodName) ∈ hs_tbl := List.mem_filter.mpr ⟨List.mem_of_getElem? (i := 826) (by decide +kernel), by decide +kernel⟩
theorem mt_251 : Cond.selects "UnitTurns" ⟨"UnitTurns", "figure", "(I)I"⟩ ⟨"UnitTurns", "figure", "(I)I"⟩ ∈ hs_tbl := List.mem_filter.mpr ⟨List.mem_of_getElem? (i := 40) (by decide +kernel), by decide +kernel⟩
theorem mv_X8_189 : hs_MV RX8 189 yX8_figure cX8_figure 2 (some .int) 1 8 := ⟨⟨mt_248, mt_132, mt_249, ⟨by decide +kernel, by decide +kernel, by decide +kernel⟩, by decide⟩, mt_250, mt_251, ⟨_, rfl, rfl⟩⟩
theorem mt_252 : Cond.code ({ cls := "UnitTurns$Trail", name := "keep", desc := "(LUnitTurns$Setup;)V" } : MethodName) prog_9_method_2_code (2 : Nat) (Option.none : Option FieldType) ∈ hs_tbl := List.mem_filter.mpr ⟨List.mem_of_getElem? (i := 411) (by decide +kernel), by decide +kernel⟩
theorem mt_253 : Cond.methodLink "UnitTurns" (196 : Nat) ({ cls := "UnitTurns$Trail", name := "keep", desc := "(LUnitTurns$Setup;)V" } : MethodName) ∈ hs_tbl := List.mem_filter.mpr ⟨List.mem_of_getElem? (i := 408) (by decide +kernel), by decide +kernel⟩
theorem mt_254 : Cond.instanceMethod ({ cls := "UnitTurns$Trail", name := "keep", desc := "(LUnitTurns$Setup;)V" } : MethodName) ∈ hs_tbl := List.mem_filter.mpr ⟨List.mem_of_getElem? (i := 409) (by decide +kernel), by decide +kernel⟩
theorem mt_255 : Cond.selects "UnitTurns$Trail" ({ cls := "UnitTurns$Trail", name := "keep", desc := "(LUnitTurns$Setup;)V" } : MethodName) ({ cls := "UnitTurns$Trail", name := "keep", desc := "(LUnitTurns$Setup;)V" } : MethodName) ∈ hs_tbl := List.mem_filter.mpr ⟨List.mem_of_getElem? (i := 410) (by decide +kernel), by decide +kernel⟩
theorem mv_X8_196 : hs_MV RX8 196 yX7_keep cX7_keep 2 none 1 7 := ⟨⟨mt_252, mt_240, mt_253, ⟨by decide +kernel, by decide +kernel, by decide +kernel⟩, by decide⟩, mt_254, mt_255, ⟨_, rfl, rfl⟩⟩
theorem mt_256 : Cond.code ({ cls := "UnitTurns$Setup", name := "instructionsOf", desc := "(I)I" } : MethodName) prog_8_method_10_code (4 : Nat) (Option.some FieldType.int) ∈ hs_tbl := List.mem_filter.mpr ⟨List.mem_of_getElem? (i := 440) (by decide +kernel), by decide +kernel⟩
theorem mt_257 : Cond.methodLink "UnitTurns" (207 : Nat) ({ cls := "UnitTurns$Setup", name := "instructionsOf", desc := "(I)I" } : MethodName) ∈ hs_tbl := List.mem_filter.mpr ⟨List.mem_of_getElem? (i := 437) (by decide +kernel), by decide +kernel⟩
theorem mt_258 : Cond.instanceMethod ({ cls := "UnitTurns$Setup", name := "instructionsOf", desc := "(I)I" } : MethodName) ∈ hs_tbl := List.mem_filter.mpr ⟨List.mem_of_getElem? (i := 438) (by decide +kernel), by decide +kernel⟩
theorem mt_259 : Cond.selects "UnitTurns$Setup" ({ cls := "UnitTurns$Setup", name := "instructionsOf", desc := "(I)I" } : MethodName) ({ cls := "UnitTurns$Setup", name := "instructionsOf", desc := "(I)I" } : MethodName) ∈ hs_tbl := List.mem_filter.mpr ⟨List.mem_of_getElem? (i := 439) (by decide +kernel), by decide +kernel⟩
theorem mv_X8_207 : hs_MV RX8 207 yX6_instructionsOf cX6_instructionsOf 4 (some .int) 1 6 := ⟨⟨mt_256, mt_123, mt_257, ⟨by decide +kernel, by decide +kernel, by decide +kernel⟩, by decide⟩, mt_258, mt_259, ⟨_, rfl, rfl⟩⟩
theorem mt_260 : Cond.code ({ cls := "UnitTurns", name := "unitOf", desc := "(II)I" } : MethodName) prog_1_method_30_code (2 : Nat) (Option.some FieldType.int) ∈ hs_tbl := List.mem_filter.mpr ⟨List.mem_of_getElem? (i := 443) (by decide +kernel), by decide +kernel⟩
theorem mt_261 : Cond.methodLink "UnitTurns" (213 : Nat) ({ cls := "UnitTurns", name := "unitOf", desc := "(II)I" } : MethodName) ∈ hs_tbl := List.mem_filter.mpr ⟨List.mem_of_getElem? (i := 441) (by decide +kernel), by decide +kernel⟩
theorem mt_262 : Cond.static ({ cls := "UnitTurns", name := "unitOf", desc := "(II)I" } : MethodName) ∈ hs_tbl := List.mem_filter.mpr ⟨List.mem_of_getElem? (i := 442) (by decide +kernel), by decide +kernel⟩
theorem ms_X8_213 : hs_MS RX8 213 yX8_unitOf cX8_unitOf 2 (some .int) 2 := ⟨⟨mt_260, mt_132, mt_261, ⟨by decide +kernel, by decide +kernel, by decide +kernel⟩, by decide⟩, mt_262⟩
theorem mt_263 : Cond.code ({ cls := "UnitTurns$Setup", name := "needsOf", desc := "(II)I" } : MethodName) prog_8_method_11_code (5 : Nat) (Option.some FieldType.int) ∈ hs_tbl := List.mem_filter.mpr ⟨List.mem_of_getElem? (i := 590) (by decide +kernel), by decide +kernel⟩
theorem mt_264 : Cond.methodLink "UnitTurns" (222 : Nat) ({ cls := "UnitTurns$Setup", name := "needsOf", desc := "(II)I" } : MethodName) ∈ hs_tbl := List.mem_filter.mpr ⟨List.mem_of_getElem? (i := 587) (by decide +kernel), by decide +kernel⟩
theorem mt_265 : Cond.instanceMethod ({ cls := "UnitTurns$Setup", name := "needsOf", desc := "(II)I" } : MethodName) ∈ hs_tbl := List.mem_filter.mpr ⟨List.mem_of_getElem? (i := 588) (by decide +kernel), by decide +kernel⟩
theorem mt_266 : Cond.selects "UnitTurns$Setup" ({ cls := "UnitTurns$Setup", name := "needsOf", desc := "(II)I" } : MethodName) ({ cls := "UnitTurns$Setup", name := "needsOf", desc := "(II)I" } : MethodName) ∈ hs_tbl := List.mem_filter.mpr ⟨List.mem_of_getElem? (i := 589) (by decide +kernel), by decide +kernel⟩
theorem mv_X8_222 : hs_MV RX8 222 yX6_needsOf cX6_needsOf 5 (some .int) 2 6 := ⟨⟨mt_263, mt_123, mt_264, ⟨by decide +kernel, by decide +kernel, by decide +kernel⟩, by decide⟩, mt_265, mt_266, ⟨_, rfl, rfl⟩⟩
theorem mt_267 : Cond.code ({ cls := "UnitTurns$Ranks", name := "run", desc := "(LUnitTurns$Block;I)V" } : MethodName) prog_4_method_2_code (5 : Nat) (Option.none : Option FieldType) ∈ hs_tbl := List.mem_filter.mpr ⟨List.mem_of_getElem? (i := 709) (by decide +kernel), by decide +kernel⟩
theorem mt_268 : Cond.initialized "UnitTurns$Ranks" ∈ hs_tbl := List.mem_filter.mpr ⟨List.mem_of_getElem? (i := 97) (by decide +kernel), by decide +kernel⟩
theorem mt_269 : Cond.methodLink "UnitTurns" (228 : Nat) ({ cls := "UnitTurns$Ranks", name := "run", desc := "(LUnitTurns$Block;I)V" } : MethodName) ∈ hs_tbl := List.mem_filter.mpr ⟨List.mem_of_getElem? (i := 706) (by decide +kernel), by decide +kernel⟩
theorem mt_270 : Cond.instanceMethod ({ cls := "UnitTurns$Ranks", name := "run", desc := "(LUnitTurns$Block;I)V" } : MethodName) ∈ hs_tbl := List.mem_filter.mpr ⟨List.mem_of_getElem? (i := 707) (by decide +kernel), by decide +kernel⟩
theorem mt_271 : Cond.selects "UnitTurns$Ranks" ({ cls := "UnitTurns$Ranks", name := "run", desc := "(LUnitTurns$Block;I)V" } : MethodName) ({ cls := "UnitTurns$Ranks", name := "run", desc := "(LUnitTurns$Block;I)V" } : MethodName) ∈ hs_tbl := List.mem_filter.mpr ⟨List.mem_of_getElem? (i := 708) (by decide +kernel), by decide +kernel⟩
theorem mv_X8_228 : hs_MV RX8 228 yX2_run cX2_run 5 none 2 2 := ⟨⟨mt_267, mt_268, mt_269, ⟨by decide +kernel, by decide +kernel, by decide +kernel⟩, by decide⟩, mt_270, mt_271, ⟨_, rfl, rfl⟩⟩
theorem mt_272 : Cond.code ({ cls := "UnitTurns$Block", name := "lengthOf", desc := "([I)I" } : MethodName) prog_2_method_4_code (4 : Nat) (Option.some FieldType.int) ∈ hs_tbl := List.mem_filter.mpr ⟨List.mem_of_getElem? (i := 738) (by decide +kernel), by decide +kernel⟩
theorem mt_273 : Cond.methodLink "UnitTurns" (232 : Nat) ({ cls := "UnitTurns$Block", name := "lengthOf", desc := "([I)I" } : MethodName) ∈ hs_tbl := List.mem_filter.mpr ⟨List.mem_of_getElem? (i := 735) (by decide +kernel), by decide +kernel⟩
theorem mt_274 : Cond.instanceMethod ({ cls := "UnitTurns$Block", name := "lengthOf", desc := "([I)I" } : MethodName) ∈ hs_tbl := List.mem_filter.mpr ⟨List.mem_of_getElem? (i := 736) (by decide +kernel), by decide +kernel⟩
theorem mt_275 : Cond.selects "UnitTurns$Block" ({ cls := "UnitTurns$Block", name := "lengthOf", desc := "([I)I" } : MethodName) ({ cls := "UnitTurns$Block", name := "lengthOf", desc := "([I)I" } : MethodName) ∈ hs_tbl := List.mem_filter.mpr ⟨List.mem_of_getElem? (i := 737) (by decide +kernel), by decide +kernel⟩
theorem mv_X8_232 : hs_MV RX8 232 yX0_lengthOf cX0_lengthOf 4 (some .int) 1 0 := ⟨⟨mt_272, mt_198, mt_273, ⟨by decide +kernel, by decide +kernel, by decide +kernel⟩, by decide⟩, mt_274, mt_275, ⟨_, rfl, rfl⟩⟩
theorem mt_276 : Cond.code ({ cls := "UnitTurns$Block", name := "turnsHeld", desc := "(I)I" } : MethodName) prog_2_method_9_code (3 : Nat) (Option.some FieldType.int) ∈ hs_tbl := List.mem_filter.mpr ⟨List.mem_of_getElem? (i := 570) (by decide +kernel), by decide +kernel⟩
theorem mt_277 : Cond.methodLink "UnitTurns$Block" (57 : Nat) ({ cls := "UnitTurns$Block", name := "turnsHeld", desc := "(I)I" } : MethodName) ∈ hs_tbl := List.mem_filter.mpr ⟨List.mem_of_getElem? (i := 568) (by decide +kernel), by decide +kernel⟩
theorem mt_278 : Cond.static ({ cls := "UnitTurns$Block", name := "turnsHeld", desc := "(I)I" } : MethodName) ∈ hs_tbl := List.mem_filter.mpr ⟨List.mem_of_getElem? (i := 569) (by decide +kernel), by decide +kernel⟩
theorem ms_X0_57 : hs_MS RX0 57 yX0_turnsHeld cX0_turnsHeld 3 (some .int) 1 := ⟨⟨mt_276, mt_198, mt_277, ⟨by decide +kernel, by decide +kernel, by decide +kernel⟩, by decide⟩, mt_278⟩
theorem mt_279 : Cond.code ({ cls := "java/lang/Math", name := "max", desc := "(II)I" } : MethodName) prog_13_method_65_code (2 : Nat) (Option.some FieldType.int) ∈ hs_tbl := List.mem_filter.mpr ⟨List.mem_of_getElem? (i := 574) (by decide +kernel), by decide +kernel⟩
theorem mt_280 : Cond.initialized "java/lang/Math" ∈ hs_tbl := List.mem_filter.mpr ⟨List.mem_of_getElem? (i := 103) (by decide +kernel), by decide +kernel⟩
theorem mt_281 : Cond.methodLink "UnitTurns$Block" (61 : Nat) ({ cls := "java/lang/Math", name := "max", desc := "(II)I" } : MethodName) ∈ hs_tbl := List.mem_filter.mpr ⟨List.mem_of_getElem? (i := 572) (by decide +kernel), by decide +kernel⟩
theorem mt_282 : Cond.static ({ cls := "java/lang/Math", name := "max", desc := "(II)I" } : MethodName) ∈ hs_tbl := List.mem_filter.mpr ⟨List.mem_of_getElem? (i := 573) (by decide +kernel), by decide +kernel⟩
theorem ms_X0_61 : hs_MS RX0 61 yJ9_max_7cf53 cJ9_max_7cf53 2 (some .int) 2 := ⟨⟨mt_279, mt_280, mt_281, ⟨by decide +kernel, by decide +kernel, by decide +kernel⟩, by decide⟩, mt_282⟩
theorem mt_283 : Cond.code ({ cls := "UnitTurns", name := "pair", desc := "(II)I" } : MethodName) prog_1_method_33_code (2 : Nat) (Option.some FieldType.int) ∈ hs_tbl := List.mem_filter.mpr ⟨List.mem_of_getElem? (i := 542) (by decide +kernel), by decide +kernel⟩
theorem mt_284 : Cond.static ({ cls := "UnitTurns", name := "pair", desc := "(II)I" } : MethodName) ∈ hs_tbl := List.mem_filter.mpr ⟨List.mem_of_getElem? (i := 541) (by decide +kernel), by decide +kernel⟩
theorem mn_X0_67 : hs_MN RX0 67 yX8_pair "UnitTurns" cX8_pair 2 (some .int) 2 := ⟨mt_283, mt_132, by decide +kernel, ⟨by decide +kernel, by decide +kernel, by decide +kernel⟩, by decide, mt_284⟩
theorem mt_285 : Cond.code ({ cls := "UnitTurns$Setup", name := "delay", desc := "(II)I" } : MethodName) prog_8_method_12_code (4 : Nat) (Option.some FieldType.int) ∈ hs_tbl := List.mem_filter.mpr ⟨List.mem_of_getElem? (i := 579) (by decide +kernel), by decide +kernel⟩
theorem mt_286 : Cond.methodLink "UnitTurns$Block" (70 : Nat) ({ cls := "UnitTurns$Setup", name := "delay", desc := "(II)I" } : MethodName) ∈ hs_tbl := List.mem_filter.mpr ⟨List.mem_of_getElem? (i := 576) (by decide +kernel), by decide +kernel⟩
theorem mt_287 : Cond.instanceMethod ({ cls := "UnitTurns$Setup", name := "delay", desc := "(II)I" } : MethodName) ∈ hs_tbl := List.mem_filter.mpr ⟨List.mem_of_getElem? (i := 577) (by decide +kernel), by decide +kernel⟩
theorem mt_288 : Cond.selects "UnitTurns$Setup" ({ cls := "UnitTurns$Setup", name := "delay", desc := "(II)I" } : MethodName) ({ cls := "UnitTurns$Setup", name := "delay", desc := "(II)I" } : MethodName) ∈ hs_tbl := List.mem_filter.mpr ⟨List.mem_of_getElem? (i := 578) (by decide +kernel), by decide +kernel⟩
theorem mv_X0_70 : hs_MV RX0 70 yX6_delay cX6_delay 4 (some .int) 2 6 := ⟨⟨mt_285, mt_123, mt_286, ⟨by decide +kernel, by decide +kernel, by decide +kernel⟩, by decide⟩, mt_287, mt_288, ⟨_, rfl, rfl⟩⟩
theorem mt_289 : Cond.code ({ cls := "UnitTurns$Block", name := "clashOf", desc := "(II)I" } : MethodName) prog_2_method_10_code (4 : Nat) (Option.some FieldType.int) ∈ hs_tbl := List.mem_filter.mpr ⟨List.mem_of_getElem? (i := 582) (by decide +kernel), by decide +kernel⟩
theorem mt_290 : Cond.methodLink "UnitTurns$Block" (72 : Nat) ({ cls := "UnitTurns$Block", name := "clashOf", desc := "(II)I" } : MethodName) ∈ hs_tbl := List.mem_filter.mpr ⟨List.mem_of_getElem? (i := 580) (by decide +kernel), by decide +kernel⟩
theorem mt_291 : Cond.static ({ cls := "UnitTurns$Block", name := "clashOf", desc := "(II)I" } : MethodName) ∈ hs_tbl := List.mem_filter.mpr ⟨List.mem_of_getElem? (i := 581) (by decide +kernel), by decide +kernel⟩
theorem ms_X0_72 : hs_MS RX0 72 yX0_clashOf cX0_clashOf 4 (some .int) 2 := ⟨⟨mt_289, mt_198, mt_290, ⟨by decide +kernel, by decide +kernel, by decide +kernel⟩, by decide⟩, mt_291⟩
theorem mt_292 : Cond.code ({ cls := "UnitTurns$Block", name := "measureWays", desc := "()V" } : MethodName) prog_2_method_8_code (5 : Nat) (Option.none : Option FieldType) ∈ hs_tbl := List.mem_filter.mpr ⟨List.mem_of_getElem? (i := 586) (by decide +kernel), by decide +kernel⟩
theorem mt_293 : Cond.methodLink "UnitTurns$Block" (75 : Nat) ({ cls := "UnitTurns$Block", name := "measureWays", desc := "()V" } : MethodName) ∈ hs_tbl := List.mem_filter.mpr ⟨List.mem_of_getElem? (i := 583) (by decide +kernel), by decide +kernel⟩
theorem mt_294 : Cond.instanceMethod ({ cls := "UnitTurns$Block", name := "measureWays", desc := "()V" } : MethodName) ∈ hs_tbl := List.mem_filter.mpr ⟨List.mem_of_getElem? (i := 585) (by decide +kernel), by decide +kernel⟩
theorem mt_295 : Cond.selects "UnitTurns$Block" ⟨"UnitTurns$Block", "measureWays", "()V"⟩ ⟨"UnitTurns$Block", "measureWays", "()V"⟩ ∈ hs_tbl := List.mem_filter.mpr ⟨List.mem_of_getElem? (i := 13) (by decide +kernel), by decide +kernel⟩
theorem mv_X0_75 : hs_MV RX0 75 yX0_measureWays cX0_measureWays 5 none 0 0 := ⟨⟨mt_292, mt_198, mt_293, ⟨by decide +kernel, by decide +kernel, by decide +kernel⟩, by decide⟩, mt_294, mt_295, ⟨_, rfl, rfl⟩⟩
theorem mn_X0_78 : hs_MN RX0 78 yX8_unitOf "UnitTurns" cX8_unitOf 2 (some .int) 2 := ⟨mt_260, mt_132, by decide +kernel, ⟨by decide +kernel, by decide +kernel, by decide +kernel⟩, by decide, mt_262⟩
theorem mt_296 : Cond.code ({ cls := "java/lang/Integer", name := "bitCount", desc := "(I)I" } : MethodName) prog_12_method_49_code (1 : Nat) (Option.some FieldType.int) ∈ hs_tbl := List.mem_filter.mpr ⟨List.mem_of_getElem? (i := 602) (by decide +kernel), by decide +kernel⟩
theorem mt_297 : Cond.initialized "java/lang/Integer" ∈ hs_tbl := List.mem_filter.mpr ⟨List.mem_of_getElem? (i := 104) (by decide +kernel), by decide +kernel⟩
theorem mt_298 : Cond.methodLink "UnitTurns$Block" (81 : Nat) ({ cls := "java/lang/Integer", name := "bitCount", desc := "(I)I" } : MethodName) ∈ hs_tbl := List.mem_filter.mpr ⟨List.mem_of_getElem? (i := 600) (by decide +kernel), by decide +kernel⟩
theorem mt_299 : Cond.static ({ cls := "java/lang/Integer", name := "bitCount", desc := "(I)I" } : MethodName) ∈ hs_tbl := List.mem_filter.mpr ⟨List.mem_of_getElem? (i := 601) (by decide +kernel), by decide +kernel⟩
theorem ms_X0_81 : hs_MS RX0 81 yJ6_bitCount_0f7a4 cJ6_bitCount_0f7a4 1 (some .int) 1 := ⟨⟨mt_296, mt_297, mt_298, ⟨by decide +kernel, by decide +kernel, by decide +kernel⟩, by decide⟩, mt_299⟩
theorem mt_300 : Cond.code ({ cls := "UnitTurns$Block", name := "isPlan", desc := "([I)Z" } : MethodName) prog_2_method_7_code (5 : Nat) (Option.some FieldType.boolean) ∈ hs_tbl := List.mem_filter.mpr ⟨List.mem_of_getElem? (i := 753) (by decide +kernel), by decide +kernel⟩
theorem mt_301 : Cond.methodLink "UnitTurns$Block" (86 : Nat) ({ cls := "UnitTurns$Block", name := "isPlan", desc := "([I)Z" } : MethodName) ∈ hs_tbl := List.mem_filter.mpr ⟨List.mem_of_getElem? (i := 750) (by decide +kernel), by decide +kernel⟩
theorem mt_302 : Cond.instanceMethod ({ cls := "UnitTurns$Block", name := "isPlan", desc := "([I)Z" } : MethodName) ∈ hs_tbl := List.mem_filter.mpr ⟨List.mem_of_getElem? (i := 752) (by decide +kernel), by decide +kernel⟩
theorem mt_303 : Cond.selects "UnitTurns$Block" ⟨"UnitTurns$Block", "isPlan", "([I)Z"⟩ ⟨"UnitTurns$Block", "isPlan", "([I)Z"⟩ ∈ hs_tbl := List.mem_filter.mpr ⟨List.mem_of_getElem? (i := 34) (by decide +kernel), by decide +kernel⟩
theorem mv_X0_86 : hs_MV RX0 86 yX0_isPlan cX0_isPlan 5 (some .boolean) 1 0 := ⟨⟨mt_300, mt_198, mt_301, ⟨by decide +kernel, by decide +kernel, by decide +kernel⟩, by decide⟩, mt_302, mt_303, ⟨_, rfl, rfl⟩⟩
theorem mt_304 : Cond.methodLink "UnitTurns$Block" (90 : Nat) ({ cls := "UnitTurns$Block", name := "lengthOf", desc := "([I)I" } : MethodName) ∈ hs_tbl := List.mem_filter.mpr ⟨List.mem_of_getElem? (i := 755) (by decide +kernel), by decide +kernel⟩
theorem mv_X0_90 : hs_MV RX0 90 yX0_lengthOf cX0_lengthOf 4 (some .int) 1 0 := ⟨⟨mt_272, mt_198, mt_304, ⟨by decide +kernel, by decide +kernel, by decide +kernel⟩, by decide⟩, mt_274, mt_275, ⟨_, rfl, rfl⟩⟩
theorem mt_305 : Cond.code ({ cls := "UnitTurns$Block", name := "clashes", desc := "(IIII)Z" } : MethodName) prog_2_method_6_code (6 : Nat) (Option.some FieldType.boolean) ∈ hs_tbl := List.mem_filter.mpr ⟨List.mem_of_getElem? (i := 641) (by decide +kernel), by decide +kernel⟩
theorem mt_306 : Cond.methodLink "UnitTurns$Block" (94 : Nat) ({ cls := "UnitTurns$Block", name := "clashes", desc := "(IIII)Z" } : MethodName) ∈ hs_tbl := List.mem_filter.mpr ⟨List.mem_of_getElem? (i := 754) (by decide +kernel), by decide +kernel⟩
theorem mt_307 : Cond.instanceMethod ({ cls := "UnitTurns$Block", name := "clashes", desc := "(IIII)Z" } : MethodName) ∈ hs_tbl := List.mem_filter.mpr ⟨List.mem_of_getElem? (i := 639) (by decide +kernel), by decide +kernel⟩
theorem mt_308 : Cond.selects "UnitTurns$Block" ({ cls := "UnitTurns$Block", name := "clashes", desc := "(IIII)Z" } : MethodName) ({ cls := "UnitTurns$Block", name := "clashes", desc := "(IIII)Z" } : MethodName) ∈ hs_tbl := List.mem_filter.mpr ⟨List.mem_of_getElem? (i := 640) (by decide +kernel), by decide +kernel⟩
theorem mv_X0_94 : hs_MV RX0 94 yX0_clashes cX0_clashes 6 (some .boolean) 4 0 := ⟨⟨mt_305, mt_198, mt_306, ⟨by decide +kernel, by decide +kernel, by decide +kernel⟩, by decide⟩, mt_307, mt_308, ⟨_, rfl, rfl⟩⟩
theorem mt_309 : Cond.code ({ cls := "UnitTurns", name := "passed", desc := "(II)I" } : MethodName) prog_1_method_31_code (4 : Nat) (Option.some FieldType.int) ∈ hs_tbl := List.mem_filter.mpr ⟨List.mem_of_getElem? (i := 466) (by decide +kernel), by decide +kernel⟩
theorem mt_310 : Cond.static ({ cls := "UnitTurns", name := "passed", desc := "(II)I" } : MethodName) ∈ hs_tbl := List.mem_filter.mpr ⟨List.mem_of_getElem? (i := 465) (by decide +kernel), by decide +kernel⟩
theorem mn_X0_98 : hs_MN RX0 98 yX8_passed "UnitTurns" cX8_passed 4 (some .int) 2 := ⟨mt_309, mt_132, by decide +kernel, ⟨by decide +kernel, by decide +kernel, by decide +kernel⟩, by decide, mt_310⟩
theorem mt_311 : Cond.code ({ cls := "UnitTurns$Chart", name := "forgetStates", desc := "()V" } : MethodName) prog_3_method_8_code (2 : Nat) (Option.none : Option FieldType) ∈ hs_tbl := List.mem_filter.mpr ⟨List.mem_of_getElem? (i := 455) (by decide +kernel), by decide +kernel⟩
theorem mt_312 : Cond.methodLink "UnitTurns$Chart" (25 : Nat) ({ cls := "UnitTurns$Chart", name := "forgetStates", desc := "()V" } : MethodName) ∈ hs_tbl := List.mem_filter.mpr ⟨List.mem_of_getElem? (i := 452) (by decide +kernel), by decide +kernel⟩
theorem mt_313 : Cond.instanceMethod ({ cls := "UnitTurns$Chart", name := "forgetStates", desc := "()V" } : MethodName) ∈ hs_tbl := List.mem_filter.mpr ⟨List.mem_of_getElem? (i := 454) (by decide +kernel), by decide +kernel⟩
theorem mt_314 : Cond.selects "UnitTurns$Chart" ⟨"UnitTurns$Chart", "forgetStates", "()V"⟩ ⟨"UnitTurns$Chart", "forgetStates", "()V"⟩ ∈ hs_tbl := List.mem_filter.mpr ⟨List.mem_of_getElem? (i := 4) (by decide +kernel), by decide +kernel⟩
theorem mv_X1_25 : hs_MV RX1 25 yX1_forgetStates cX1_forgetStates 2 none 0 1 := ⟨⟨mt_311, mt_153, mt_312, ⟨by decide +kernel, by decide +kernel, by decide +kernel⟩, by decide⟩, mt_313, mt_314, ⟨_, rfl, rfl⟩⟩
theorem mt_315 : Cond.code ({ cls := "UnitTurns$Chart", name := "findStates", desc := "(LUnitTurns$Setup;)V" } : MethodName) prog_3_method_9_code (5 : Nat) (Option.none : Option FieldType) ∈ hs_tbl := List.mem_filter.mpr ⟨List.mem_of_getElem? (i := 459) (by decide +kernel), by decide +kernel⟩
theorem mt_316 : Cond.methodLink "UnitTurns$Chart" (28 : Nat) ({ cls := "UnitTurns$Chart", name := "findStates", desc := "(LUnitTurns$Setup;)V" } : MethodName) ∈ hs_tbl := List.mem_filter.mpr ⟨List.mem_of_getElem? (i := 456) (by decide +kernel), by decide +kernel⟩
theorem mt_317 : Cond.instanceMethod ({ cls := "UnitTurns$Chart", name := "findStates", desc := "(LUnitTurns$Setup;)V" } : MethodName) ∈ hs_tbl := List.mem_filter.mpr ⟨List.mem_of_getElem? (i := 458) (by decide +kernel), by decide +kernel⟩
theorem mt_318 : Cond.selects "UnitTurns$Chart" ⟨"UnitTurns$Chart", "findStates", "(LUnitTurns$Setup;)V"⟩ ⟨"UnitTurns$Chart", "findStates", "(LUnitTurns$Setup;)V"⟩ ∈ hs_tbl := List.mem_filter.mpr ⟨List.mem_of_getElem? (i := 5) (by decide +kernel), by decide +kernel⟩
theorem mv_X1_28 : hs_MV RX1 28 yX1_findStates cX1_findStates 5 none 1 1 := ⟨⟨mt_315, mt_153, mt_316, ⟨by decide +kernel, by decide +kernel, by decide +kernel⟩, by decide⟩, mt_317, mt_318, ⟨_, rfl, rfl⟩⟩
theorem mt_319 : Cond.code ({ cls := "UnitTurns$Chart", name := "tellClasses", desc := "(LUnitTurns$Setup;)V" } : MethodName) prog_3_method_11_code (3 : Nat) (Option.none : Option FieldType) ∈ hs_tbl := List.mem_filter.mpr ⟨List.mem_of_getElem? (i := 470) (by decide +kernel), by decide +kernel⟩
theorem mt_320 : Cond.methodLink "UnitTurns$Chart" (35 : Nat) ({ cls := "UnitTurns$Chart", name := "tellClasses", desc := "(LUnitTurns$Setup;)V" } : MethodName) ∈ hs_tbl := List.mem_filter.mpr ⟨List.mem_of_getElem? (i := 467) (by decide +kernel), by decide +kernel⟩
theorem mt_321 : Cond.instanceMethod ({ cls := "UnitTurns$Chart", name := "tellClasses", desc := "(LUnitTurns$Setup;)V" } : MethodName) ∈ hs_tbl := List.mem_filter.mpr ⟨List.mem_of_getElem? (i := 469) (by decide +kernel), by decide +kernel⟩
theorem mt_322 : Cond.selects "UnitTurns$Chart" ⟨"UnitTurns$Chart", "tellClasses", "(LUnitTurns$Setup;)V"⟩ ⟨"UnitTurns$Chart", "tellClasses", "(LUnitTurns$Setup;)V"⟩ ∈ hs_tbl := List.mem_filter.mpr ⟨List.mem_of_getElem? (i := 7) (by decide +kernel), by decide +kernel⟩
theorem mv_X1_35 : hs_MV RX1 35 yX1_tellClasses cX1_tellClasses 3 none 1 1 := ⟨⟨mt_319, mt_153, mt_320, ⟨by decide +kernel, by decide +kernel, by decide +kernel⟩, by decide⟩, mt_321, mt_322, ⟨_, rfl, rfl⟩⟩
theorem mn_X1_45 : hs_MN RX1 45 yX8_unitOf "UnitTurns" cX8_unitOf 2 (some .int) 2 := ⟨mt_260, mt_132, by decide +kernel, ⟨by decide +kernel, by decide +kernel, by decide +kernel⟩, by decide, mt_262⟩
theorem mn_X1_49 : hs_MN RX1 49 yX8_passed "UnitTurns" cX8_passed 4 (some .int) 2 := ⟨mt_309, mt_132, by decide +kernel, ⟨by decide +kernel, by decide +kernel, by decide +kernel⟩, by decide, mt_310⟩
theorem mt_323 : Cond.code ({ cls := "UnitTurns$Chart", name := "note", desc := "(I)V" } : MethodName) prog_3_method_10_code (2 : Nat) (Option.none : Option FieldType) ∈ hs_tbl := List.mem_filter.mpr ⟨List.mem_of_getElem? (i := 463) (by decide +kernel), by decide +kernel⟩
theorem mt_324 : Cond.methodLink "UnitTurns$Chart" (57 : Nat) ({ cls := "UnitTurns$Chart", name := "note", desc := "(I)V" } : MethodName) ∈ hs_tbl := List.mem_filter.mpr ⟨List.mem_of_getElem? (i := 460) (by decide +kernel), by decide +kernel⟩
theorem mt_325 : Cond.instanceMethod ({ cls := "UnitTurns$Chart", name := "note", desc := "(I)V" } : MethodName) ∈ hs_tbl := List.mem_filter.mpr ⟨List.mem_of_getElem? (i := 462) (by decide +kernel), by decide +kernel⟩
theorem mt_326 : Cond.selects "UnitTurns$Chart" ⟨"UnitTurns$Chart", "note", "(I)V"⟩ ⟨"UnitTurns$Chart", "note", "(I)V"⟩ ∈ hs_tbl := List.mem_filter.mpr ⟨List.mem_of_getElem? (i := 6) (by decide +kernel), by decide +kernel⟩
theorem mv_X1_57 : hs_MV RX1 57 yX1_note cX1_note 2 none 1 1 := ⟨⟨mt_323, mt_153, mt_324, ⟨by decide +kernel, by decide +kernel, by decide +kernel⟩, by decide⟩, mt_325, mt_326, ⟨_, rfl, rfl⟩⟩
theorem mt_327 : Cond.code ({ cls := "UnitTurns$Chart", name := "clashesOf", desc := "(LUnitTurns$Setup;I)I" } : MethodName) prog_3_method_13_code (6 : Nat) (Option.some FieldType.int) ∈ hs_tbl := List.mem_filter.mpr ⟨List.mem_of_getElem? (i := 473) (by decide +kernel), by decide +kernel⟩
theorem mt_328 : Cond.methodLink "UnitTurns$Chart" (64 : Nat) ({ cls := "UnitTurns$Chart", name := "clashesOf", desc := "(LUnitTurns$Setup;I)I" } : MethodName) ∈ hs_tbl := List.mem_filter.mpr ⟨List.mem_of_getElem? (i := 471) (by decide +kernel), by decide +kernel⟩
theorem mt_329 : Cond.static ({ cls := "UnitTurns$Chart", name := "clashesOf", desc := "(LUnitTurns$Setup;I)I" } : MethodName) ∈ hs_tbl := List.mem_filter.mpr ⟨List.mem_of_getElem? (i := 472) (by decide +kernel), by decide +kernel⟩
theorem ms_X1_64 : hs_MS RX1 64 yX1_clashesOf cX1_clashesOf 6 (some .int) 2 := ⟨⟨mt_327, mt_153, mt_328, ⟨by decide +kernel, by decide +kernel, by decide +kernel⟩, by decide⟩, mt_329⟩
theorem mt_330 : Cond.code ({ cls := "UnitTurns$Chart", name := "isFirstOfClass", desc := "(I)Z" } : MethodName) prog_3_method_12_code (3 : Nat) (Option.some FieldType.boolean) ∈ hs_tbl := List.mem_filter.mpr ⟨List.mem_of_getElem? (i := 477) (by decide +kernel), by decide +kernel⟩
theorem mt_331 : Cond.methodLink "UnitTurns$Chart" (68 : Nat) ({ cls := "UnitTurns$Chart", name := "isFirstOfClass", desc := "(I)Z" } : MethodName) ∈ hs_tbl := List.mem_filter.mpr ⟨List.mem_of_getElem? (i := 474) (by decide +kernel), by decide +kernel⟩
theorem mt_332 : Cond.instanceMethod ({ cls := "UnitTurns$Chart", name := "isFirstOfClass", desc := "(I)Z" } : MethodName) ∈ hs_tbl := List.mem_filter.mpr ⟨List.mem_of_getElem? (i := 476) (by decide +kernel), by decide +kernel⟩
theorem mt_333 : Cond.selects "UnitTurns$Chart" ⟨"UnitTurns$Chart", "isFirstOfClass", "(I)Z"⟩ ⟨"UnitTurns$Chart", "isFirstOfClass", "(I)Z"⟩ ∈ hs_tbl := List.mem_filter.mpr ⟨List.mem_of_getElem? (i := 8) (by decide +kernel), by decide +kernel⟩
theorem mv_X1_68 : hs_MV RX1 68 yX1_isFirstOfClass cX1_isFirstOfClass 3 (some .boolean) 1 1 := ⟨⟨mt_330, mt_153, mt_331, ⟨by decide +kernel, by decide +kernel, by decide +kernel⟩, by decide⟩, mt_332, mt_333, ⟨_, rfl, rfl⟩⟩
theorem mt_334 : Cond.code ({ cls := "UnitTurns$Ranks", name := "weigh", desc := "(LUnitTurns$Block;I)V" } : MethodName) prog_4_method_3_code (5 : Nat) (Option.none : Option FieldType) ∈ hs_tbl := List.mem_filter.mpr ⟨List.mem_of_getElem? (i := 713) (by decide +kernel), by decide +kernel⟩
theorem mt_335 : Cond.methodLink "UnitTurns$Ranks" (21 : Nat) ({ cls := "UnitTurns$Ranks", name := "weigh", desc := "(LUnitTurns$Block;I)V" } : MethodName) ∈ hs_tbl := List.mem_filter.mpr ⟨List.mem_of_getElem? (i := 710) (by decide +kernel), by decide +kernel⟩
theorem mt_336 : Cond.instanceMethod ({ cls := "UnitTurns$Ranks", name := "weigh", desc := "(LUnitTurns$Block;I)V" } : MethodName) ∈ hs_tbl := List.mem_filter.mpr ⟨List.mem_of_getElem? (i := 712) (by decide +kernel), by decide +kernel⟩
theorem mt_337 : Cond.selects "UnitTurns$Ranks" ⟨"UnitTurns$Ranks", "weigh", "(LUnitTurns$Block;I)V"⟩ ⟨"UnitTurns$Ranks", "weigh", "(LUnitTurns$Block;I)V"⟩ ∈ hs_tbl := List.mem_filter.mpr ⟨List.mem_of_getElem? (i := 29) (by decide +kernel), by decide +kernel⟩
theorem mv_X2_21 : hs_MV RX2 21 yX2_weigh cX2_weigh 5 none 2 2 := ⟨⟨mt_334, mt_268, mt_335, ⟨by decide +kernel, by decide +kernel, by decide +kernel⟩, by decide⟩, mt_336, mt_337, ⟨_, rfl, rfl⟩⟩
theorem mt_338 : Cond.code ({ cls := "UnitTurns$Ranks", name := "sort", desc := "(I)V" } : MethodName) prog_4_method_4_code (4 : Nat) (Option.none : Option FieldType) ∈ hs_tbl := List.mem_filter.mpr ⟨List.mem_of_getElem? (i := 718) (by decide +kernel), by decide +kernel⟩
theorem mt_339 : Cond.methodLink "UnitTurns$Ranks" (31 : Nat) ({ cls := "UnitTurns$Ranks", name := "sort", desc := "(I)V" } : MethodName) ∈ hs_tbl := List.mem_filter.mpr ⟨List.mem_of_getElem? (i := 715) (by decide +kernel), by decide +kernel⟩
theorem mt_340 : Cond.instanceMethod ({ cls := "UnitTurns$Ranks", name := "sort", desc := "(I)V" } : MethodName) ∈ hs_tbl := List.mem_filter.mpr ⟨List.mem_of_getElem? (i := 717) (by decide +kernel), by decide +kernel⟩
theorem mt_341 : Cond.selects "UnitTurns$Ranks" ⟨"UnitTurns$Ranks", "sort", "(I)V"⟩ ⟨"UnitTurns$Ranks", "sort", "(I)V"⟩ ∈ hs_tbl := List.mem_filter.mpr ⟨List.mem_of_getElem? (i := 30) (by decide +kernel), by decide +kernel⟩
theorem mv_X2_31 : hs_MV RX2 31 yX2_sort cX2_sort 4 none 1 2 := ⟨⟨mt_338, mt_268, mt_339, ⟨by decide +kernel, by decide +kernel, by decide +kernel⟩, by decide⟩, mt_340, mt_341, ⟨_, rfl, rfl⟩⟩
theorem mt_342 : Cond.code ({ cls := "java/util/Arrays", name := "fill", desc := "([II)V" } : MethodName) prog_15_method_103_code (4 : Nat) (Option.none : Option FieldType) ∈ hs_tbl := List.mem_filter.mpr ⟨List.mem_of_getElem? (i := 721) (by decide +kernel), by decide +kernel⟩
theorem mt_343 : Cond.initialized "java/util/Arrays" ∈ hs_tbl := List.mem_filter.mpr ⟨List.mem_of_getElem? (i := 105) (by decide +kernel), by decide +kernel⟩
theorem mt_344 : Cond.methodLink "UnitTurns$Ranks" (35 : Nat) ({ cls := "java/util/Arrays", name := "fill", desc := "([II)V" } : MethodName) ∈ hs_tbl := List.mem_filter.mpr ⟨List.mem_of_getElem? (i := 719) (by decide +kernel), by decide +kernel⟩
theorem mt_345 : Cond.static ({ cls := "java/util/Arrays", name := "fill", desc := "([II)V" } : MethodName) ∈ hs_tbl := List.mem_filter.mpr ⟨List.mem_of_getElem? (i := 720) (by decide +kernel), by decide +kernel⟩
theorem ms_X2_35 : hs_MS RX2 35 yJ7_fill_53178 cJ7_fill_53178 4 none 2 := ⟨⟨mt_342, mt_343, mt_344, ⟨by decide +kernel, by decide +kernel, by decide +kernel⟩, by decide⟩, mt_345⟩
theorem mt_346 : Cond.code ({ cls := "UnitTurns$Ranks", name := "beginAt", desc := "(LUnitTurns$Block;I)I" } : MethodName) prog_4_method_5_code (6 : Nat) (Option.some FieldType.int) ∈ hs_tbl := List.mem_filter.mpr ⟨List.mem_of_getElem? (i := 725) (by decide +kernel), by decide +kernel⟩
theorem mt_347 : Cond.methodLink "UnitTurns$Ranks" (41 : Nat) ({ cls := "UnitTurns$Ranks", name := "beginAt", desc := "(LUnitTurns$Block;I)I" } : MethodName) ∈ hs_tbl := List.mem_filter.mpr ⟨List.mem_of_getElem? (i := 722) (by decide +kernel), by decide +kernel⟩
theorem mt_348 : Cond.instanceMethod ({ cls := "UnitTurns$Ranks", name := "beginAt", desc := "(LUnitTurns$Block;I)I" } : MethodName) ∈ hs_tbl := List.mem_filter.mpr ⟨List.mem_of_getElem? (i := 724) (by decide +kernel), by decide +kernel⟩
theorem mt_349 : Cond.selects "UnitTurns$Ranks" ⟨"UnitTurns$Ranks", "beginAt", "(LUnitTurns$Block;I)I"⟩ ⟨"UnitTurns$Ranks", "beginAt", "(LUnitTurns$Block;I)I"⟩ ∈ hs_tbl := List.mem_filter.mpr ⟨List.mem_of_getElem? (i := 31) (by decide +kernel), by decide +kernel⟩
theorem mv_X2_41 : hs_MV RX2 41 yX2_beginAt cX2_beginAt 6 (some .int) 2 2 := ⟨⟨mt_346, mt_268, mt_347, ⟨by decide +kernel, by decide +kernel, by decide +kernel⟩, by decide⟩, mt_348, mt_349, ⟨_, rfl, rfl⟩⟩
theorem mn_X2_51 : hs_MN RX2 51 yX8_pair "UnitTurns" cX8_pair 2 (some .int) 2 := ⟨mt_283, mt_132, by decide +kernel, ⟨by decide +kernel, by decide +kernel, by decide +kernel⟩, by decide, mt_284⟩
theorem mt_350 : Cond.code ({ cls := "UnitTurns$Ranks", name := "isReady", desc := "(LUnitTurns$Block;II)Z" } : MethodName) prog_4_method_6_code (6 : Nat) (Option.some FieldType.boolean) ∈ hs_tbl := List.mem_filter.mpr ⟨List.mem_of_getElem? (i := 729) (by decide +kernel), by decide +kernel⟩
theorem mt_351 : Cond.methodLink "UnitTurns$Ranks" (58 : Nat) ({ cls := "UnitTurns$Ranks", name := "isReady", desc := "(LUnitTurns$Block;II)Z" } : MethodName) ∈ hs_tbl := List.mem_filter.mpr ⟨List.mem_of_getElem? (i := 726) (by decide +kernel), by decide +kernel⟩
theorem mt_352 : Cond.instanceMethod ({ cls := "UnitTurns$Ranks", name := "isReady", desc := "(LUnitTurns$Block;II)Z" } : MethodName) ∈ hs_tbl := List.mem_filter.mpr ⟨List.mem_of_getElem? (i := 728) (by decide +kernel), by decide +kernel⟩
theorem mt_353 : Cond.selects "UnitTurns$Ranks" ⟨"UnitTurns$Ranks", "isReady", "(LUnitTurns$Block;II)Z"⟩ ⟨"UnitTurns$Ranks", "isReady", "(LUnitTurns$Block;II)Z"⟩ ∈ hs_tbl := List.mem_filter.mpr ⟨List.mem_of_getElem? (i := 32) (by decide +kernel), by decide +kernel⟩
theorem mv_X2_58 : hs_MV RX2 58 yX2_isReady cX2_isReady 6 (some .boolean) 3 2 := ⟨⟨mt_350, mt_268, mt_351, ⟨by decide +kernel, by decide +kernel, by decide +kernel⟩, by decide⟩, mt_352, mt_353, ⟨_, rfl, rfl⟩⟩
theorem mt_354 : Cond.code ({ cls := "UnitTurns$Ranks", name := "isFree", desc := "(LUnitTurns$Block;II)Z" } : MethodName) prog_4_method_7_code (5 : Nat) (Option.some FieldType.boolean) ∈ hs_tbl := List.mem_filter.mpr ⟨List.mem_of_getElem? (i := 733) (by decide +kernel), by decide +kernel⟩
theorem mt_355 : Cond.methodLink "UnitTurns$Ranks" (62 : Nat) ({ cls := "UnitTurns$Ranks", name := "isFree", desc := "(LUnitTurns$Block;II)Z" } : MethodName) ∈ hs_tbl := List.mem_filter.mpr ⟨List.mem_of_getElem? (i := 730) (by decide +kernel), by decide +kernel⟩
theorem mt_356 : Cond.instanceMethod ({ cls := "UnitTurns$Ranks", name := "isFree", desc := "(LUnitTurns$Block;II)Z" } : MethodName) ∈ hs_tbl := List.mem_filter.mpr ⟨List.mem_of_getElem? (i := 732) (by decide +kernel), by decide +kernel⟩
theorem mt_357 : Cond.selects "UnitTurns$Ranks" ⟨"UnitTurns$Ranks", "isFree", "(LUnitTurns$Block;II)Z"⟩ ⟨"UnitTurns$Ranks", "isFree", "(LUnitTurns$Block;II)Z"⟩ ∈ hs_tbl := List.mem_filter.mpr ⟨List.mem_of_getElem? (i := 33) (by decide +kernel), by decide +kernel⟩
theorem mv_X2_62 : hs_MV RX2 62 yX2_isFree cX2_isFree 5 (some .boolean) 3 2 := ⟨⟨mt_354, mt_268, mt_355, ⟨by decide +kernel, by decide +kernel, by decide +kernel⟩, by decide⟩, mt_356, mt_357, ⟨_, rfl, rfl⟩⟩
theorem mt_358 : Cond.methodLink "UnitTurns$Ranks" (65 : Nat) ({ cls := "UnitTurns$Block", name := "clashes", desc := "(IIII)Z" } : MethodName) ∈ hs_tbl := List.mem_filter.mpr ⟨List.mem_of_getElem? (i := 734) (by decide +kernel), by decide +kernel⟩
theorem mv_X2_65 : hs_MV RX2 65 yX0_clashes cX0_clashes 6 (some .boolean) 4 0 := ⟨⟨mt_305, mt_198, mt_358, ⟨by decide +kernel, by decide +kernel, by decide +kernel⟩, by decide⟩, mt_307, mt_308, ⟨_, rfl, rfl⟩⟩
theorem mt_359 : Cond.code ({ cls := "UnitTurns$Rows", name := "measureApart", desc := "(LUnitTurns$Block;[I)V" } : MethodName) prog_5_method_3_code (6 : Nat) (Option.none : Option FieldType) ∈ hs_tbl := List.mem_filter.mpr ⟨List.mem_of_getElem? (i := 635) (by decide +kernel), by decide +kernel⟩
theorem mt_360 : Cond.initialized "UnitTurns$Rows" ∈ hs_tbl := List.mem_filter.mpr ⟨List.mem_of_getElem? (i := 99) (by decide +kernel), by decide +kernel⟩
theorem mt_361 : Cond.methodLink "UnitTurns$Rows" (18 : Nat) ({ cls := "UnitTurns$Rows", name := "measureApart", desc := "(LUnitTurns$Block;[I)V" } : MethodName) ∈ hs_tbl := List.mem_filter.mpr ⟨List.mem_of_getElem? (i := 632) (by decide +kernel), by decide +kernel⟩
theorem mt_362 : Cond.instanceMethod ({ cls := "UnitTurns$Rows", name := "measureApart", desc := "(LUnitTurns$Block;[I)V" } : MethodName) ∈ hs_tbl := List.mem_filter.mpr ⟨List.mem_of_getElem? (i := 634) (by decide +kernel), by decide +kernel⟩
theorem mt_363 : Cond.selects "UnitTurns$Rows" ⟨"UnitTurns$Rows", "measureApart", "(LUnitTurns$Block;[I)V"⟩ ⟨"UnitTurns$Rows", "measureApart", "(LUnitTurns$Block;[I)V"⟩ ∈ hs_tbl := List.mem_filter.mpr ⟨List.mem_of_getElem? (i := 16) (by decide +kernel), by decide +kernel⟩
theorem mv_X3_18 : hs_MV RX3 18 yX3_measureApart cX3_measureApart 6 none 2 3 := ⟨⟨mt_359, mt_360, mt_361, ⟨by decide +kernel, by decide +kernel, by decide +kernel⟩, by decide⟩, mt_362, mt_363, ⟨_, rfl, rfl⟩⟩
theorem mt_364 : Cond.code ({ cls := "UnitTurns$Rows", name := "lengthOfSet", desc := "(LUnitTurns$Block;[II)I" } : MethodName) prog_5_method_4_code (7 : Nat) (Option.some FieldType.int) ∈ hs_tbl := List.mem_filter.mpr ⟨List.mem_of_getElem? (i := 645) (by decide +kernel), by decide +kernel⟩
theorem mt_365 : Cond.methodLink "UnitTurns$Rows" (28 : Nat) ({ cls := "UnitTurns$Rows", name := "lengthOfSet", desc := "(LUnitTurns$Block;[II)I" } : MethodName) ∈ hs_tbl := List.mem_filter.mpr ⟨List.mem_of_getElem? (i := 642) (by decide +kernel), by decide +kernel⟩
theorem mt_366 : Cond.instanceMethod ({ cls := "UnitTurns$Rows", name := "lengthOfSet", desc := "(LUnitTurns$Block;[II)I" } : MethodName) ∈ hs_tbl := List.mem_filter.mpr ⟨List.mem_of_getElem? (i := 644) (by decide +kernel), by decide +kernel⟩
theorem mt_367 : Cond.selects "UnitTurns$Rows" ⟨"UnitTurns$Rows", "lengthOfSet", "(LUnitTurns$Block;[II)I"⟩ ⟨"UnitTurns$Rows", "lengthOfSet", "(LUnitTurns$Block;[II)I"⟩ ∈ hs_tbl := List.mem_filter.mpr ⟨List.mem_of_getElem? (i := 17) (by decide +kernel), by decide +kernel⟩
theorem mv_X3_28 : hs_MV RX3 28 yX3_lengthOfSet cX3_lengthOfSet 7 (some .int) 3 3 := ⟨⟨mt_364, mt_360, mt_365, ⟨by decide +kernel, by decide +kernel, by decide +kernel⟩, by decide⟩, mt_366, mt_367, ⟨_, rfl, rfl⟩⟩
theorem mt_368 : Cond.methodLink "UnitTurns$Rows" (32 : Nat) ({ cls := "java/lang/Math", name := "max", desc := "(II)I" } : MethodName) ∈ hs_tbl := List.mem_filter.mpr ⟨List.mem_of_getElem? (i := 637) (by decide +kernel), by decide +kernel⟩
theorem ms_X3_32 : hs_MS RX3 32 yJ9_max_7cf53 cJ9_max_7cf53 2 (some .int) 2 := ⟨⟨mt_279, mt_280, mt_368, ⟨by decide +kernel, by decide +kernel, by decide +kernel⟩, by decide⟩, mt_282⟩
theorem mn_X3_38 : hs_MN RX3 38 yX8_pair "UnitTurns" cX8_pair 2 (some .int) 2 := ⟨mt_283, mt_132, by decide +kernel, ⟨by decide +kernel, by decide +kernel, by decide +kernel⟩, by decide, mt_284⟩
theorem mt_369 : Cond.methodLink "UnitTurns$Rows" (44 : Nat) ({ cls := "UnitTurns$Block", name := "clashes", desc := "(IIII)Z" } : MethodName) ∈ hs_tbl := List.mem_filter.mpr ⟨List.mem_of_getElem? (i := 638) (by decide +kernel), by decide +kernel⟩
theorem mv_X3_44 : hs_MV RX3 44 yX0_clashes cX0_clashes 6 (some .boolean) 4 0 := ⟨⟨mt_305, mt_198, mt_369, ⟨by decide +kernel, by decide +kernel, by decide +kernel⟩, by decide⟩, mt_307, mt_308, ⟨_, rfl, rfl⟩⟩
theorem mt_370 : Cond.code ({ cls := "UnitTurns$Rows", name := "turnOfLast", desc := "(LUnitTurns$Block;[III)I" } : MethodName) prog_5_method_5_code (7 : Nat) (Option.some FieldType.int) ∈ hs_tbl := List.mem_filter.mpr ⟨List.mem_of_getElem? (i := 649) (by decide +kernel), by decide +kernel⟩
theorem mt_371 : Cond.methodLink "UnitTurns$Rows" (48 : Nat) ({ cls := "UnitTurns$Rows", name := "turnOfLast", desc := "(LUnitTurns$Block;[III)I" } : MethodName) ∈ hs_tbl := List.mem_filter.mpr ⟨List.mem_of_getElem? (i := 646) (by decide +kernel), by decide +kernel⟩
theorem mt_372 : Cond.instanceMethod ({ cls := "UnitTurns$Rows", name := "turnOfLast", desc := "(LUnitTurns$Block;[III)I" } : MethodName) ∈ hs_tbl := List.mem_filter.mpr ⟨List.mem_of_getElem? (i := 648) (by decide +kernel), by decide +kernel⟩
theorem mt_373 : Cond.selects "UnitTurns$Rows" ⟨"UnitTurns$Rows", "turnOfLast", "(LUnitTurns$Block;[III)I"⟩ ⟨"UnitTurns$Rows", "turnOfLast", "(LUnitTurns$Block;[III)I"⟩ ∈ hs_tbl := List.mem_filter.mpr ⟨List.mem_of_getElem? (i := 18) (by decide +kernel), by decide +kernel⟩
theorem mv_X3_48 : hs_MV RX3 48 yX3_turnOfLast cX3_turnOfLast 7 (some .int) 4 3 := ⟨⟨mt_370, mt_360, mt_371, ⟨by decide +kernel, by decide +kernel, by decide +kernel⟩, by decide⟩, mt_372, mt_373, ⟨_, rfl, rfl⟩⟩
theorem mt_374 : Cond.code ({ cls := "java/lang/Math", name := "min", desc := "(II)I" } : MethodName) prog_13_method_69_code (2 : Nat) (Option.some FieldType.int) ∈ hs_tbl := List.mem_filter.mpr ⟨List.mem_of_getElem? (i := 652) (by decide +kernel), by decide +kernel⟩
theorem mt_375 : Cond.methodLink "UnitTurns$Rows" (55 : Nat) ({ cls := "java/lang/Math", name := "min", desc := "(II)I" } : MethodName) ∈ hs_tbl := List.mem_filter.mpr ⟨List.mem_of_getElem? (i := 650) (by decide +kernel), by decide +kernel⟩
theorem mt_376 : Cond.static ({ cls := "java/lang/Math", name := "min", desc := "(II)I" } : MethodName) ∈ hs_tbl := List.mem_filter.mpr ⟨List.mem_of_getElem? (i := 651) (by decide +kernel), by decide +kernel⟩
theorem ms_X3_55 : hs_MS RX3 55 yJ9_min_7cf53 cJ9_min_7cf53 2 (some .int) 2 := ⟨⟨mt_374, mt_280, mt_375, ⟨by decide +kernel, by decide +kernel, by decide +kernel⟩, by decide⟩, mt_376⟩
theorem mt_377 : Cond.code ({ cls := "UnitTurns$Script", name := "skipBlanks", desc := "()V" } : MethodName) prog_6_method_9_code (1 : Nat) (Option.none : Option FieldType) ∈ hs_tbl := List.mem_filter.mpr ⟨List.mem_of_getElem? (i := 783) (by decide +kernel), by decide +kernel⟩
theorem mt_378 : Cond.methodLink "UnitTurns$Script" (31 : Nat) ({ cls := "UnitTurns$Script", name := "skipBlanks", desc := "()V" } : MethodName) ∈ hs_tbl := List.mem_filter.mpr ⟨List.mem_of_getElem? (i := 780) (by decide +kernel), by decide +kernel⟩
theorem mt_379 : Cond.instanceMethod ({ cls := "UnitTurns$Script", name := "skipBlanks", desc := "()V" } : MethodName) ∈ hs_tbl := List.mem_filter.mpr ⟨List.mem_of_getElem? (i := 782) (by decide +kernel), by decide +kernel⟩
theorem mt_380 : Cond.selects "UnitTurns$Script" ⟨"UnitTurns$Script", "skipBlanks", "()V"⟩ ⟨"UnitTurns$Script", "skipBlanks", "()V"⟩ ∈ hs_tbl := List.mem_filter.mpr ⟨List.mem_of_getElem? (i := 35) (by decide +kernel), by decide +kernel⟩
theorem mv_X4_31 : hs_MV RX4 31 yX4_skipBlanks cX4_skipBlanks 1 none 0 4 := ⟨⟨mt_377, mt_223, mt_378, ⟨by decide +kernel, by decide +kernel, by decide +kernel⟩, by decide⟩, mt_379, mt_380, ⟨_, rfl, rfl⟩⟩
theorem mt_381 : Cond.code ({ cls := "UnitTurns$Script", name := "scanOrder", desc := "()Z" } : MethodName) prog_6_method_6_code (3 : Nat) (Option.some FieldType.boolean) ∈ hs_tbl := List.mem_filter.mpr ⟨List.mem_of_getElem? (i := 787) (by decide +kernel), by decide +kernel⟩
theorem mt_382 : Cond.methodLink "UnitTurns$Script" (34 : Nat) ({ cls := "UnitTurns$Script", name := "scanOrder", desc := "()Z" } : MethodName) ∈ hs_tbl := List.mem_filter.mpr ⟨List.mem_of_getElem? (i := 784) (by decide +kernel), by decide +kernel⟩
theorem mt_383 : Cond.instanceMethod ({ cls := "UnitTurns$Script", name := "scanOrder", desc := "()Z" } : MethodName) ∈ hs_tbl := List.mem_filter.mpr ⟨List.mem_of_getElem? (i := 786) (by decide +kernel), by decide +kernel⟩
theorem mt_384 : Cond.selects "UnitTurns$Script" ⟨"UnitTurns$Script", "scanOrder", "()Z"⟩ ⟨"UnitTurns$Script", "scanOrder", "()Z"⟩ ∈ hs_tbl := List.mem_filter.mpr ⟨List.mem_of_getElem? (i := 36) (by decide +kernel), by decide +kernel⟩
theorem mv_X4_34 : hs_MV RX4 34 yX4_scanOrder cX4_scanOrder 3 (some .boolean) 0 4 := ⟨⟨mt_381, mt_223, mt_382, ⟨by decide +kernel, by decide +kernel, by decide +kernel⟩, by decide⟩, mt_383, mt_384, ⟨_, rfl, rfl⟩⟩
theorem mt_385 : Cond.methodLink "UnitTurns$Script" (38 : Nat) ({ cls := "UnitTurns$Setup", name := "addKind", desc := "(IIII)I" } : MethodName) ∈ hs_tbl := List.mem_filter.mpr ⟨List.mem_of_getElem? (i := 807) (by decide +kernel), by decide +kernel⟩
theorem mv_X4_38 : hs_MV RX4 38 yX6_addKind cX6_addKind 5 (some .int) 4 6 := ⟨⟨mt_127, mt_123, mt_385, ⟨by decide +kernel, by decide +kernel, by decide +kernel⟩, by decide⟩, mt_129, mt_130, ⟨_, rfl, rfl⟩⟩
theorem mt_386 : Cond.methodLink "UnitTurns$Script" (44 : Nat) ({ cls := "UnitTurns$Setup", name := "addInstruction", desc := "(I)I" } : MethodName) ∈ hs_tbl := List.mem_filter.mpr ⟨List.mem_of_getElem? (i := 808) (by decide +kernel), by decide +kernel⟩
theorem mv_X4_44 : hs_MV RX4 44 yX6_addInstruction cX6_addInstruction 2 (some .int) 1 6 := ⟨⟨mt_177, mt_123, mt_386, ⟨by decide +kernel, by decide +kernel, by decide +kernel⟩, by decide⟩, mt_179, mt_180, ⟨_, rfl, rfl⟩⟩
theorem mt_387 : Cond.methodLink "UnitTurns$Script" (48 : Nat) ({ cls := "UnitTurns$Setup", name := "changeNeed", desc := "(III)I" } : MethodName) ∈ hs_tbl := List.mem_filter.mpr ⟨List.mem_of_getElem? (i := 809) (by decide +kernel), by decide +kernel⟩
theorem mv_X4_48 : hs_MV RX4 48 yX6_changeNeed cX6_changeNeed 5 (some .int) 3 6 := ⟨⟨mt_181, mt_123, mt_387, ⟨by decide +kernel, by decide +kernel, by decide +kernel⟩, by decide⟩, mt_183, mt_184, ⟨_, rfl, rfl⟩⟩
theorem mt_388 : Cond.methodLink "UnitTurns$Script" (52 : Nat) ({ cls := "UnitTurns$Setup", name := "change", desc := "(II)I" } : MethodName) ∈ hs_tbl := List.mem_filter.mpr ⟨List.mem_of_getElem? (i := 810) (by decide +kernel), by decide +kernel⟩
theorem mv_X4_52 : hs_MV RX4 52 yX6_change cX6_change 4 (some .int) 2 6 := ⟨⟨mt_136, mt_123, mt_388, ⟨by decide +kernel, by decide +kernel, by decide +kernel⟩, by decide⟩, mt_138, mt_139, ⟨_, rfl, rfl⟩⟩
theorem mt_389 : Cond.methodLink "UnitTurns$Script" (56 : Nat) ({ cls := "UnitTurns$Setup", name := "removeInstruction", desc := "(I)I" } : MethodName) ∈ hs_tbl := List.mem_filter.mpr ⟨List.mem_of_getElem? (i := 811) (by decide +kernel), by decide +kernel⟩
theorem mv_X4_56 : hs_MV RX4 56 yX6_removeInstruction cX6_removeInstruction 6 (some .int) 1 6 := ⟨⟨mt_185, mt_123, mt_389, ⟨by decide +kernel, by decide +kernel, by decide +kernel⟩, by decide⟩, mt_187, mt_188, ⟨_, rfl, rfl⟩⟩
theorem mt_390 : Cond.code ({ cls := "UnitTurns$Script", name := "byteHere", desc := "()I" } : MethodName) prog_6_method_11_code (1 : Nat) (Option.some FieldType.int) ∈ hs_tbl := List.mem_filter.mpr ⟨List.mem_of_getElem? (i := 791) (by decide +kernel), by decide +kernel⟩
theorem mt_391 : Cond.methodLink "UnitTurns$Script" (59 : Nat) ({ cls := "UnitTurns$Script", name := "byteHere", desc := "()I" } : MethodName) ∈ hs_tbl := List.mem_filter.mpr ⟨List.mem_of_getElem? (i := 788) (by decide +kernel), by decide +kernel⟩
theorem mt_392 : Cond.instanceMethod ({ cls := "UnitTurns$Script", name := "byteHere", desc := "()I" } : MethodName) ∈ hs_tbl := List.mem_filter.mpr ⟨List.mem_of_getElem? (i := 790) (by decide +kernel), by decide +kernel⟩
theorem mt_393 : Cond.selects "UnitTurns$Script" ⟨"UnitTurns$Script", "byteHere", "()I"⟩ ⟨"UnitTurns$Script", "byteHere", "()I"⟩ ∈ hs_tbl := List.mem_filter.mpr ⟨List.mem_of_getElem? (i := 37) (by decide +kernel), by decide +kernel⟩
theorem mv_X4_59 : hs_MV RX4 59 yX4_byteHere cX4_byteHere 1 (some .int) 0 4 := ⟨⟨mt_390, mt_223, mt_391, ⟨by decide +kernel, by decide +kernel, by decide +kernel⟩, by decide⟩, mt_392, mt_393, ⟨_, rfl, rfl⟩⟩
theorem mt_394 : Cond.code ({ cls := "UnitTurns$Script", name := "numbersBehind", desc := "(I)I" } : MethodName) prog_6_method_8_code (1 : Nat) (Option.some FieldType.int) ∈ hs_tbl := List.mem_filter.mpr ⟨List.mem_of_getElem? (i := 794) (by decide +kernel), by decide +kernel⟩
theorem mt_395 : Cond.methodLink "UnitTurns$Script" (63 : Nat) ({ cls := "UnitTurns$Script", name := "numbersBehind", desc := "(I)I" } : MethodName) ∈ hs_tbl := List.mem_filter.mpr ⟨List.mem_of_getElem? (i := 792) (by decide +kernel), by decide +kernel⟩
theorem mt_396 : Cond.static ({ cls := "UnitTurns$Script", name := "numbersBehind", desc := "(I)I" } : MethodName) ∈ hs_tbl := List.mem_filter.mpr ⟨List.mem_of_getElem? (i := 793) (by decide +kernel), by decide +kernel⟩
theorem ms_X4_63 : hs_MS RX4 63 yX4_numbersBehind cX4_numbersBehind 1 (some .int) 1 := ⟨⟨mt_394, mt_223, mt_395, ⟨by decide +kernel, by decide +kernel, by decide +kernel⟩, by decide⟩, mt_396⟩
theorem mt_397 : Cond.code ({ cls := "UnitTurns$Script", name := "scanNumber", desc := "(I)Z" } : MethodName) prog_6_method_7_code (2 : Nat) (Option.some FieldType.boolean) ∈ hs_tbl := List.mem_filter.mpr ⟨List.mem_of_getElem? (i := 798) (by decide +kernel), by decide +kernel⟩
theorem mt_398 : Cond.methodLink "UnitTurns$Script" (66 : Nat) ({ cls := "UnitTurns$Script", name := "scanNumber", desc := "(I)Z" } : MethodName) ∈ hs_tbl := List.mem_filter.mpr ⟨List.mem_of_getElem? (i := 795) (by decide +kernel), by decide +kernel⟩
theorem mt_399 : Cond.instanceMethod ({ cls := "UnitTurns$Script", name := "scanNumber", desc := "(I)Z" } : MethodName) ∈ hs_tbl := List.mem_filter.mpr ⟨List.mem_of_getElem? (i := 797) (by decide +kernel), by decide +kernel⟩
theorem mt_400 : Cond.selects "UnitTurns$Script" ⟨"UnitTurns$Script", "scanNumber", "(I)Z"⟩ ⟨"UnitTurns$Script", "scanNumber", "(I)Z"⟩ ∈ hs_tbl := List.mem_filter.mpr ⟨List.mem_of_getElem? (i := 38) (by decide +kernel), by decide +kernel⟩
theorem mv_X4_66 : hs_MV RX4 66 yX4_scanNumber cX4_scanNumber 2 (some .boolean) 1 4 := ⟨⟨mt_397, mt_223, mt_398, ⟨by decide +kernel, by decide +kernel, by decide +kernel⟩, by decide⟩, mt_399, mt_400, ⟨_, rfl, rfl⟩⟩
theorem mt_401 : Cond.code ({ cls := "UnitTurns$Script", name := "isFigureHere", desc := "()Z" } : MethodName) prog_6_method_10_code (1 : Nat) (Option.some FieldType.boolean) ∈ hs_tbl := List.mem_filter.mpr ⟨List.mem_of_getElem? (i := 802) (by decide +kernel), by decide +kernel⟩
theorem mt_402 : Cond.methodLink "UnitTurns$Script" (70 : Nat) ({ cls := "UnitTurns$Script", name := "isFigureHere", desc := "()Z" } : MethodName) ∈ hs_tbl := List.mem_filter.mpr ⟨List.mem_of_getElem? (i := 799) (by decide +kernel), by decide +kernel⟩
theorem mt_403 : Cond.instanceMethod ({ cls := "UnitTurns$Script", name := "isFigureHere", desc := "()Z" } : MethodName) ∈ hs_tbl := List.mem_filter.mpr ⟨List.mem_of_getElem? (i := 801) (by decide +kernel), by decide +kernel⟩
theorem mt_404 : Cond.selects "UnitTurns$Script" ⟨"UnitTurns$Script", "isFigureHere", "()Z"⟩ ⟨"UnitTurns$Script", "isFigureHere", "()Z"⟩ ∈ hs_tbl := List.mem_filter.mpr ⟨List.mem_of_getElem? (i := 39) (by decide +kernel), by decide +kernel⟩
theorem mv_X4_70 : hs_MV RX4 70 yX4_isFigureHere cX4_isFigureHere 1 (some .boolean) 0 4 := ⟨⟨mt_401, mt_223, mt_402, ⟨by decide +kernel, by decide +kernel, by decide +kernel⟩, by decide⟩, mt_403, mt_404, ⟨_, rfl, rfl⟩⟩
theorem mt_405 : Cond.code ({ cls := "UnitTurns$Search", name := "measureGaps", desc := "(LUnitTurns$Block;)V" } : MethodName) prog_7_method_3_code (5 : Nat) (Option.none : Option FieldType) ∈ hs_tbl := List.mem_filter.mpr ⟨List.mem_of_getElem? (i := 617) (by decide +kernel), by decide +kernel⟩
theorem mt_406 : Cond.methodLink "UnitTurns$Search" (35 : Nat) ({ cls := "UnitTurns$Search", name := "measureGaps", desc := "(LUnitTurns$Block;)V" } : MethodName) ∈ hs_tbl := List.mem_filter.mpr ⟨List.mem_of_getElem? (i := 614) (by decide +kernel), by decide +kernel⟩
theorem mt_407 : Cond.instanceMethod ({ cls := "UnitTurns$Search", name := "measureGaps", desc := "(LUnitTurns$Block;)V" } : MethodName) ∈ hs_tbl := List.mem_filter.mpr ⟨List.mem_of_getElem? (i := 616) (by decide +kernel), by decide +kernel⟩
theorem mt_408 : Cond.selects "UnitTurns$Search" ⟨"UnitTurns$Search", "measureGaps", "(LUnitTurns$Block;)V"⟩ ⟨"UnitTurns$Search", "measureGaps", "(LUnitTurns$Block;)V"⟩ ∈ hs_tbl := List.mem_filter.mpr ⟨List.mem_of_getElem? (i := 14) (by decide +kernel), by decide +kernel⟩
theorem mv_X5_35 : hs_MV RX5 35 yX5_measureGaps cX5_measureGaps 5 none 1 5 := ⟨⟨mt_405, mt_207, mt_406, ⟨by decide +kernel, by decide +kernel, by decide +kernel⟩, by decide⟩, mt_407, mt_408, ⟨_, rfl, rfl⟩⟩
theorem mt_409 : Cond.methodLink "UnitTurns$Search" (39 : Nat) ({ cls := "UnitTurns$Block", name := "leastLength", desc := "()I" } : MethodName) ∈ hs_tbl := List.mem_filter.mpr ⟨List.mem_of_getElem? (i := 627) (by decide +kernel), by decide +kernel⟩
theorem mv_X5_39 : hs_MV RX5 39 yX0_leastLength cX0_leastLength 5 (some .int) 0 0 := ⟨⟨mt_202, mt_198, mt_409, ⟨by decide +kernel, by decide +kernel, by decide +kernel⟩, by decide⟩, mt_204, mt_205, ⟨_, rfl, rfl⟩⟩
theorem mt_410 : Cond.code ({ cls := "UnitTurns$Rows", name := "leastLength", desc := "(LUnitTurns$Block;[I)I" } : MethodName) prog_5_method_2_code (5 : Nat) (Option.some FieldType.int) ∈ hs_tbl := List.mem_filter.mpr ⟨List.mem_of_getElem? (i := 631) (by decide +kernel), by decide +kernel⟩
theorem mt_411 : Cond.methodLink "UnitTurns$Search" (45 : Nat) ({ cls := "UnitTurns$Rows", name := "leastLength", desc := "(LUnitTurns$Block;[I)I" } : MethodName) ∈ hs_tbl := List.mem_filter.mpr ⟨List.mem_of_getElem? (i := 628) (by decide +kernel), by decide +kernel⟩
theorem mt_412 : Cond.instanceMethod ({ cls := "UnitTurns$Rows", name := "leastLength", desc := "(LUnitTurns$Block;[I)I" } : MethodName) ∈ hs_tbl := List.mem_filter.mpr ⟨List.mem_of_getElem? (i := 629) (by decide +kernel), by decide +kernel⟩
theorem mt_413 : Cond.selects "UnitTurns$Rows" ({ cls := "UnitTurns$Rows", name := "leastLength", desc := "(LUnitTurns$Block;[I)I" } : MethodName) ({ cls := "UnitTurns$Rows", name := "leastLength", desc := "(LUnitTurns$Block;[I)I" } : MethodName) ∈ hs_tbl := List.mem_filter.mpr ⟨List.mem_of_getElem? (i := 630) (by decide +kernel), by decide +kernel⟩
theorem mv_X5_45 : hs_MV RX5 45 yX3_leastLength cX3_leastLength 5 (some .int) 2 3 := ⟨⟨mt_410, mt_360, mt_411, ⟨by decide +kernel, by decide +kernel, by decide +kernel⟩, by decide⟩, mt_412, mt_413, ⟨_, rfl, rfl⟩⟩
theorem mt_414 : Cond.methodLink "UnitTurns$Search" (48 : Nat) ({ cls := "java/lang/Math", name := "max", desc := "(II)I" } : MethodName) ∈ hs_tbl := List.mem_filter.mpr ⟨List.mem_of_getElem? (i := 626) (by decide +kernel), by decide +kernel⟩
theorem ms_X5_48 : hs_MS RX5 48 yJ9_max_7cf53 cJ9_max_7cf53 2 (some .int) 2 := ⟨⟨mt_279, mt_280, mt_414, ⟨by decide +kernel, by decide +kernel, by decide +kernel⟩, by decide⟩, mt_282⟩
theorem mt_415 : Cond.code ({ cls := "UnitTurns$Search", name := "hasPlan", desc := "(LUnitTurns$Block;)Z" } : MethodName) prog_7_method_6_code (2 : Nat) (Option.some FieldType.boolean) ∈ hs_tbl := List.mem_filter.mpr ⟨List.mem_of_getElem? (i := 656) (by decide +kernel), by decide +kernel⟩
theorem mt_416 : Cond.methodLink "UnitTurns$Search" (58 : Nat) ({ cls := "UnitTurns$Search", name := "hasPlan", desc := "(LUnitTurns$Block;)Z" } : MethodName) ∈ hs_tbl := List.mem_filter.mpr ⟨List.mem_of_getElem? (i := 653) (by decide +kernel), by decide +kernel⟩
theorem mt_417 : Cond.instanceMethod ({ cls := "UnitTurns$Search", name := "hasPlan", desc := "(LUnitTurns$Block;)Z" } : MethodName) ∈ hs_tbl := List.mem_filter.mpr ⟨List.mem_of_getElem? (i := 655) (by decide +kernel), by decide +kernel⟩
theorem mt_418 : Cond.selects "UnitTurns$Search" ⟨"UnitTurns$Search", "hasPlan", "(LUnitTurns$Block;)Z"⟩ ⟨"UnitTurns$Search", "hasPlan", "(LUnitTurns$Block;)Z"⟩ ∈ hs_tbl := List.mem_filter.mpr ⟨List.mem_of_getElem? (i := 19) (by decide +kernel), by decide +kernel⟩
theorem mv_X5_58 : hs_MV RX5 58 yX5_hasPlan cX5_hasPlan 2 (some .boolean) 1 5 := ⟨⟨mt_415, mt_207, mt_416, ⟨by decide +kernel, by decide +kernel, by decide +kernel⟩, by decide⟩, mt_417, mt_418, ⟨_, rfl, rfl⟩⟩
theorem mt_419 : Cond.code ({ cls := "UnitTurns$Search", name := "takeTrial", desc := "(LUnitTurns$Block;)V" } : MethodName) prog_7_method_13_code (2 : Nat) (Option.none : Option FieldType) ∈ hs_tbl := List.mem_filter.mpr ⟨List.mem_of_getElem? (i := 692) (by decide +kernel), by decide +kernel⟩
theorem mt_420 : Cond.methodLink "UnitTurns$Search" (62 : Nat) ({ cls := "UnitTurns$Search", name := "takeTrial", desc := "(LUnitTurns$Block;)V" } : MethodName) ∈ hs_tbl := List.mem_filter.mpr ⟨List.mem_of_getElem? (i := 689) (by decide +kernel), by decide +kernel⟩
theorem mt_421 : Cond.instanceMethod ({ cls := "UnitTurns$Search", name := "takeTrial", desc := "(LUnitTurns$Block;)V" } : MethodName) ∈ hs_tbl := List.mem_filter.mpr ⟨List.mem_of_getElem? (i := 691) (by decide +kernel), by decide +kernel⟩
theorem mt_422 : Cond.selects "UnitTurns$Search" ⟨"UnitTurns$Search", "takeTrial", "(LUnitTurns$Block;)V"⟩ ⟨"UnitTurns$Search", "takeTrial", "(LUnitTurns$Block;)V"⟩ ∈ hs_tbl := List.mem_filter.mpr ⟨List.mem_of_getElem? (i := 26) (by decide +kernel), by decide +kernel⟩
theorem mv_X5_62 : hs_MV RX5 62 yX5_takeTrial cX5_takeTrial 2 none 1 5 := ⟨⟨mt_419, mt_207, mt_420, ⟨by decide +kernel, by decide +kernel, by decide +kernel⟩, by decide⟩, mt_421, mt_422, ⟨_, rfl, rfl⟩⟩
theorem mt_423 : Cond.code ({ cls := "UnitTurns$Search", name := "takeFirst", desc := "(LUnitTurns$Block;)V" } : MethodName) prog_7_method_14_code (6 : Nat) (Option.none : Option FieldType) ∈ hs_tbl := List.mem_filter.mpr ⟨List.mem_of_getElem? (i := 697) (by decide +kernel), by decide +kernel⟩
theorem mt_424 : Cond.methodLink "UnitTurns$Search" (65 : Nat) ({ cls := "UnitTurns$Search", name := "takeFirst", desc := "(LUnitTurns$Block;)V" } : MethodName) ∈ hs_tbl := List.mem_filter.mpr ⟨List.mem_of_getElem? (i := 694) (by decide +kernel), by decide +kernel⟩
theorem mt_425 : Cond.instanceMethod ({ cls := "UnitTurns$Search", name := "takeFirst", desc := "(LUnitTurns$Block;)V" } : MethodName) ∈ hs_tbl := List.mem_filter.mpr ⟨List.mem_of_getElem? (i := 696) (by decide +kernel), by decide +kernel⟩
theorem mt_426 : Cond.selects "UnitTurns$Search" ⟨"UnitTurns$Search", "takeFirst", "(LUnitTurns$Block;)V"⟩ ⟨"UnitTurns$Search", "takeFirst", "(LUnitTurns$Block;)V"⟩ ∈ hs_tbl := List.mem_filter.mpr ⟨List.mem_of_getElem? (i := 27) (by decide +kernel), by decide +kernel⟩
theorem mv_X5_65 : hs_MV RX5 65 yX5_takeFirst cX5_takeFirst 6 none 1 5 := ⟨⟨mt_423, mt_207, mt_424, ⟨by decide +kernel, by decide +kernel, by decide +kernel⟩, by decide⟩, mt_425, mt_426, ⟨_, rfl, rfl⟩⟩
theorem mn_X5_74 : hs_MN RX5 74 yX8_pair "UnitTurns" cX8_pair 2 (some .int) 2 := ⟨mt_283, mt_132, by decide +kernel, ⟨by decide +kernel, by decide +kernel, by decide +kernel⟩, by decide, mt_284⟩
theorem mt_427 : Cond.code ({ cls := "UnitTurns$Search", name := "areLike", desc := "(LUnitTurns$Block;II)Z" } : MethodName) prog_7_method_5_code (4 : Nat) (Option.some FieldType.boolean) ∈ hs_tbl := List.mem_filter.mpr ⟨List.mem_of_getElem? (i := 621) (by decide +kernel), by decide +kernel⟩
theorem mt_428 : Cond.methodLink "UnitTurns$Search" (77 : Nat) ({ cls := "UnitTurns$Search", name := "areLike", desc := "(LUnitTurns$Block;II)Z" } : MethodName) ∈ hs_tbl := List.mem_filter.mpr ⟨List.mem_of_getElem? (i := 619) (by decide +kernel), by decide +kernel⟩
theorem mt_429 : Cond.static ({ cls := "UnitTurns$Search", name := "areLike", desc := "(LUnitTurns$Block;II)Z" } : MethodName) ∈ hs_tbl := List.mem_filter.mpr ⟨List.mem_of_getElem? (i := 620) (by decide +kernel), by decide +kernel⟩
theorem ms_X5_77 : hs_MS RX5 77 yX5_areLike cX5_areLike 4 (some .boolean) 3 := ⟨⟨mt_427, mt_207, mt_428, ⟨by decide +kernel, by decide +kernel, by decide +kernel⟩, by decide⟩, mt_429⟩
theorem mt_430 : Cond.code ({ cls := "UnitTurns$Search", name := "widenGap", desc := "(III)V" } : MethodName) prog_7_method_4_code (6 : Nat) (Option.none : Option FieldType) ∈ hs_tbl := List.mem_filter.mpr ⟨List.mem_of_getElem? (i := 625) (by decide +kernel), by decide +kernel⟩
theorem mt_431 : Cond.methodLink "UnitTurns$Search" (81 : Nat) ({ cls := "UnitTurns$Search", name := "widenGap", desc := "(III)V" } : MethodName) ∈ hs_tbl := List.mem_filter.mpr ⟨List.mem_of_getElem? (i := 622) (by decide +kernel), by decide +kernel⟩
theorem mt_432 : Cond.instanceMethod ({ cls := "UnitTurns$Search", name := "widenGap", desc := "(III)V" } : MethodName) ∈ hs_tbl := List.mem_filter.mpr ⟨List.mem_of_getElem? (i := 624) (by decide +kernel), by decide +kernel⟩
theorem mt_433 : Cond.selects "UnitTurns$Search" ⟨"UnitTurns$Search", "widenGap", "(III)V"⟩ ⟨"UnitTurns$Search", "widenGap", "(III)V"⟩ ∈ hs_tbl := List.mem_filter.mpr ⟨List.mem_of_getElem? (i := 15) (by decide +kernel), by decide +kernel⟩
theorem mv_X5_81 : hs_MV RX5 81 yX5_widenGap cX5_widenGap 6 none 3 5 := ⟨⟨mt_430, mt_207, mt_431, ⟨by decide +kernel, by decide +kernel, by decide +kernel⟩, by decide⟩, mt_432, mt_433, ⟨_, rfl, rfl⟩⟩
theorem mt_434 : Cond.code ({ cls := "UnitTurns$Search", name := "openAll", desc := "(LUnitTurns$Block;)Z" } : MethodName) prog_7_method_7_code (3 : Nat) (Option.some FieldType.boolean) ∈ hs_tbl := List.mem_filter.mpr ⟨List.mem_of_getElem? (i := 660) (by decide +kernel), by decide +kernel⟩
theorem mt_435 : Cond.methodLink "UnitTurns$Search" (91 : Nat) ({ cls := "UnitTurns$Search", name := "openAll", desc := "(LUnitTurns$Block;)Z" } : MethodName) ∈ hs_tbl := List.mem_filter.mpr ⟨List.mem_of_getElem? (i := 657) (by decide +kernel), by decide +kernel⟩
theorem mt_436 : Cond.instanceMethod ({ cls := "UnitTurns$Search", name := "openAll", desc := "(LUnitTurns$Block;)Z" } : MethodName) ∈ hs_tbl := List.mem_filter.mpr ⟨List.mem_of_getElem? (i := 659) (by decide +kernel), by decide +kernel⟩
theorem mt_437 : Cond.selects "UnitTurns$Search" ⟨"UnitTurns$Search", "openAll", "(LUnitTurns$Block;)Z"⟩ ⟨"UnitTurns$Search", "openAll", "(LUnitTurns$Block;)Z"⟩ ∈ hs_tbl := List.mem_filter.mpr ⟨List.mem_of_getElem? (i := 20) (by decide +kernel), by decide +kernel⟩
theorem mv_X5_91 : hs_MV RX5 91 yX5_openAll cX5_openAll 3 (some .boolean) 1 5 := ⟨⟨mt_434, mt_207, mt_435, ⟨by decide +kernel, by decide +kernel, by decide +kernel⟩, by decide⟩, mt_436, mt_437, ⟨_, rfl, rfl⟩⟩
theorem mt_438 : Cond.code ({ cls := "UnitTurns$Search", name := "place", desc := "(LUnitTurns$Block;II)Z" } : MethodName) prog_7_method_8_code (7 : Nat) (Option.some FieldType.boolean) ∈ hs_tbl := List.mem_filter.mpr ⟨List.mem_of_getElem? (i := 671) (by decide +kernel), by decide +kernel⟩
theorem mt_439 : Cond.methodLink "UnitTurns$Search" (94 : Nat) ({ cls := "UnitTurns$Search", name := "place", desc := "(LUnitTurns$Block;II)Z" } : MethodName) ∈ hs_tbl := List.mem_filter.mpr ⟨List.mem_of_getElem? (i := 668) (by decide +kernel), by decide +kernel⟩
theorem mt_440 : Cond.instanceMethod ({ cls := "UnitTurns$Search", name := "place", desc := "(LUnitTurns$Block;II)Z" } : MethodName) ∈ hs_tbl := List.mem_filter.mpr ⟨List.mem_of_getElem? (i := 670) (by decide +kernel), by decide +kernel⟩
theorem mt_441 : Cond.selects "UnitTurns$Search" ⟨"UnitTurns$Search", "place", "(LUnitTurns$Block;II)Z"⟩ ⟨"UnitTurns$Search", "place", "(LUnitTurns$Block;II)Z"⟩ ∈ hs_tbl := List.mem_filter.mpr ⟨List.mem_of_getElem? (i := 21) (by decide +kernel), by decide +kernel⟩
theorem mv_X5_94 : hs_MV RX5 94 yX5_place cX5_place 7 (some .boolean) 3 5 := ⟨⟨mt_438, mt_207, mt_439, ⟨by decide +kernel, by decide +kernel, by decide +kernel⟩, by decide⟩, mt_440, mt_441, ⟨_, rfl, rfl⟩⟩
theorem mt_442 : Cond.code ({ cls := "UnitTurns$Search", name := "from", desc := "(I)I" } : MethodName) prog_7_method_15_code (1 : Nat) (Option.some FieldType.int) ∈ hs_tbl := List.mem_filter.mpr ⟨List.mem_of_getElem? (i := 663) (by decide +kernel), by decide +kernel⟩
theorem mt_443 : Cond.methodLink "UnitTurns$Search" (100 : Nat) ({ cls := "UnitTurns$Search", name := "from", desc := "(I)I" } : MethodName) ∈ hs_tbl := List.mem_filter.mpr ⟨List.mem_of_getElem? (i := 661) (by decide +kernel), by decide +kernel⟩
theorem mt_444 : Cond.static ({ cls := "UnitTurns$Search", name := "from", desc := "(I)I" } : MethodName) ∈ hs_tbl := List.mem_filter.mpr ⟨List.mem_of_getElem? (i := 662) (by decide +kernel), by decide +kernel⟩
theorem ms_X5_100 : hs_MS RX5 100 yX5_from cX5_from 1 (some .int) 1 := ⟨⟨mt_442, mt_207, mt_443, ⟨by decide +kernel, by decide +kernel, by decide +kernel⟩, by decide⟩, mt_444⟩
theorem mt_445 : Cond.code ({ cls := "UnitTurns$Search", name := "upTo", desc := "(I)I" } : MethodName) prog_7_method_16_code (1 : Nat) (Option.some FieldType.int) ∈ hs_tbl := List.mem_filter.mpr ⟨List.mem_of_getElem? (i := 667) (by decide +kernel), by decide +kernel⟩
theorem mt_446 : Cond.methodLink "UnitTurns$Search" (107 : Nat) ({ cls := "UnitTurns$Search", name := "upTo", desc := "(I)I" } : MethodName) ∈ hs_tbl := List.mem_filter.mpr ⟨List.mem_of_getElem? (i := 665) (by decide +kernel), by decide +kernel⟩
theorem mt_447 : Cond.static ({ cls := "UnitTurns$Search", name := "upTo", desc := "(I)I" } : MethodName) ∈ hs_tbl := List.mem_filter.mpr ⟨List.mem_of_getElem? (i := 666) (by decide +kernel), by decide +kernel⟩
theorem ms_X5_107 : hs_MS RX5 107 yX5_upTo cX5_upTo 1 (some .int) 1 := ⟨⟨mt_445, mt_207, mt_446, ⟨by decide +kernel, by decide +kernel, by decide +kernel⟩, by decide⟩, mt_447⟩
theorem mt_448 : Cond.code ({ cls := "UnitTurns$Search", name := "tightest", desc := "(LUnitTurns$Block;II)I" } : MethodName) prog_7_method_10_code (8 : Nat) (Option.some FieldType.int) ∈ hs_tbl := List.mem_filter.mpr ⟨List.mem_of_getElem? (i := 675) (by decide +kernel), by decide +kernel⟩
theorem mt_449 : Cond.methodLink "UnitTurns$Search" (110 : Nat) ({ cls := "UnitTurns$Search", name := "tightest", desc := "(LUnitTurns$Block;II)I" } : MethodName) ∈ hs_tbl := List.mem_filter.mpr ⟨List.mem_of_getElem? (i := 672) (by decide +kernel), by decide +kernel⟩
theorem mt_450 : Cond.instanceMethod ({ cls := "UnitTurns$Search", name := "tightest", desc := "(LUnitTurns$Block;II)I" } : MethodName) ∈ hs_tbl := List.mem_filter.mpr ⟨List.mem_of_getElem? (i := 674) (by decide +kernel), by decide +kernel⟩
theorem mt_451 : Cond.selects "UnitTurns$Search" ⟨"UnitTurns$Search", "tightest", "(LUnitTurns$Block;II)I"⟩ ⟨"UnitTurns$Search", "tightest", "(LUnitTurns$Block;II)I"⟩ ∈ hs_tbl := List.mem_filter.mpr ⟨List.mem_of_getElem? (i := 22) (by decide +kernel), by decide +kernel⟩
theorem mv_X5_110 : hs_MV RX5 110 yX5_tightest cX5_tightest 8 (some .int) 3 5 := ⟨⟨mt_448, mt_207, mt_449, ⟨by decide +kernel, by decide +kernel, by decide +kernel⟩, by decide⟩, mt_450, mt_451, ⟨_, rfl, rfl⟩⟩
theorem mt_452 : Cond.code ({ cls := "UnitTurns$Search", name := "isPossible", desc := "(LUnitTurns$Block;IIII)Z" } : MethodName) prog_7_method_9_code (6 : Nat) (Option.some FieldType.boolean) ∈ hs_tbl := List.mem_filter.mpr ⟨List.mem_of_getElem? (i := 680) (by decide +kernel), by decide +kernel⟩
theorem mt_453 : Cond.methodLink "UnitTurns$Search" (114 : Nat) ({ cls := "UnitTurns$Search", name := "isPossible", desc := "(LUnitTurns$Block;IIII)Z" } : MethodName) ∈ hs_tbl := List.mem_filter.mpr ⟨List.mem_of_getElem? (i := 677) (by decide +kernel), by decide +kernel⟩
theorem mt_454 : Cond.instanceMethod ({ cls := "UnitTurns$Search", name := "isPossible", desc := "(LUnitTurns$Block;IIII)Z" } : MethodName) ∈ hs_tbl := List.mem_filter.mpr ⟨List.mem_of_getElem? (i := 679) (by decide +kernel), by decide +kernel⟩
theorem mt_455 : Cond.selects "UnitTurns$Search" ⟨"UnitTurns$Search", "isPossible", "(LUnitTurns$Block;IIII)Z"⟩ ⟨"UnitTurns$Search", "isPossible", "(LUnitTurns$Block;IIII)Z"⟩ ∈ hs_tbl := List.mem_filter.mpr ⟨List.mem_of_getElem? (i := 23) (by decide +kernel), by decide +kernel⟩
theorem mv_X5_114 : hs_MV RX5 114 yX5_isPossible cX5_isPossible 6 (some .boolean) 5 5 := ⟨⟨mt_452, mt_207, mt_453, ⟨by decide +kernel, by decide +kernel, by decide +kernel⟩, by decide⟩, mt_454, mt_455, ⟨_, rfl, rfl⟩⟩
theorem mt_456 : Cond.code ({ cls := "UnitTurns$Search", name := "narrow", desc := "(LUnitTurns$Block;III)Z" } : MethodName) prog_7_method_11_code (9 : Nat) (Option.some FieldType.boolean) ∈ hs_tbl := List.mem_filter.mpr ⟨List.mem_of_getElem? (i := 684) (by decide +kernel), by decide +kernel⟩
theorem mt_457 : Cond.methodLink "UnitTurns$Search" (118 : Nat) ({ cls := "UnitTurns$Search", name := "narrow", desc := "(LUnitTurns$Block;III)Z" } : MethodName) ∈ hs_tbl := List.mem_filter.mpr ⟨List.mem_of_getElem? (i := 681) (by decide +kernel), by decide +kernel⟩
theorem mt_458 : Cond.instanceMethod ({ cls := "UnitTurns$Search", name := "narrow", desc := "(LUnitTurns$Block;III)Z" } : MethodName) ∈ hs_tbl := List.mem_filter.mpr ⟨List.mem_of_getElem? (i := 683) (by decide +kernel), by decide +kernel⟩
theorem mt_459 : Cond.selects "UnitTurns$Search" ⟨"UnitTurns$Search", "narrow", "(LUnitTurns$Block;III)Z"⟩ ⟨"UnitTurns$Search", "narrow", "(LUnitTurns$Block;III)Z"⟩ ∈ hs_tbl := List.mem_filter.mpr ⟨List.mem_of_getElem? (i := 24) (by decide +kernel), by decide +kernel⟩
theorem mv_X5_118 : hs_MV RX5 118 yX5_narrow cX5_narrow 9 (some .boolean) 4 5 := ⟨⟨mt_456, mt_207, mt_457, ⟨by decide +kernel, by decide +kernel, by decide +kernel⟩, by decide⟩, mt_458, mt_459, ⟨_, rfl, rfl⟩⟩
theorem mt_460 : Cond.methodLink "UnitTurns$Search" (122 : Nat) ({ cls := "java/lang/Integer", name := "bitCount", desc := "(I)I" } : MethodName) ∈ hs_tbl := List.mem_filter.mpr ⟨List.mem_of_getElem? (i := 676) (by decide +kernel), by decide +kernel⟩
theorem ms_X5_122 : hs_MS RX5 122 yJ6_bitCount_0f7a4 cJ6_bitCount_0f7a4 1 (some .int) 1 := ⟨⟨mt_296, mt_297, mt_460, ⟨by decide +kernel, by decide +kernel, by decide +kernel⟩, by decide⟩, mt_299⟩
theorem mt_461 : Cond.code ({ cls := "UnitTurns$Search", name := "isFull", desc := "(LUnitTurns$Block;II)Z" } : MethodName) prog_7_method_12_code (6 : Nat) (Option.some FieldType.boolean) ∈ hs_tbl := List.mem_filter.mpr ⟨List.mem_of_getElem? (i := 688) (by decide +kernel), by decide +kernel⟩
theorem mt_462 : Cond.methodLink "UnitTurns$Search" (127 : Nat) ({ cls := "UnitTurns$Search", name := "isFull", desc := "(LUnitTurns$Block;II)Z" } : MethodName) ∈ hs_tbl := List.mem_filter.mpr ⟨List.mem_of_getElem? (i := 685) (by decide +kernel), by decide +kernel⟩
theorem mt_463 : Cond.instanceMethod ({ cls := "UnitTurns$Search", name := "isFull", desc := "(LUnitTurns$Block;II)Z" } : MethodName) ∈ hs_tbl := List.mem_filter.mpr ⟨List.mem_of_getElem? (i := 687) (by decide +kernel), by decide +kernel⟩
theorem mt_464 : Cond.selects "UnitTurns$Search" ⟨"UnitTurns$Search", "isFull", "(LUnitTurns$Block;II)Z"⟩ ⟨"UnitTurns$Search", "isFull", "(LUnitTurns$Block;II)Z"⟩ ∈ hs_tbl := List.mem_filter.mpr ⟨List.mem_of_getElem? (i := 25) (by decide +kernel), by decide +kernel⟩
theorem mv_X5_127 : hs_MV RX5 127 yX5_isFull cX5_isFull 6 (some .boolean) 3 5 := ⟨⟨mt_461, mt_207, mt_462, ⟨by decide +kernel, by decide +kernel, by decide +kernel⟩, by decide⟩, mt_463, mt_464, ⟨_, rfl, rfl⟩⟩
theorem mt_465 : Cond.methodLink "UnitTurns$Search" (136 : Nat) ({ cls := "java/lang/System", name := "arraycopy", desc := "(Ljava/lang/Object;ILjava/lang/Object;II)V" } : MethodName) ∈ hs_tbl := List.mem_filter.mpr ⟨List.mem_of_getElem? (i := 693) (by decide +kernel), by decide +kernel⟩
theorem mt_466 : Cond.native ({ cls := "java/lang/System", name := "arraycopy", desc := "(Ljava/lang/Object;ILjava/lang/Object;II)V" } : MethodName) ∈ hs_tbl := List.mem_filter.mpr ⟨List.mem_of_getElem? (i := 392) (by decide +kernel), by decide +kernel⟩
theorem mt_467 : Cond.static ({ cls := "java/lang/System", name := "arraycopy", desc := "(Ljava/lang/Object;ILjava/lang/Object;II)V" } : MethodName) ∈ hs_tbl := List.mem_filter.mpr ⟨List.mem_of_getElem? (i := 391) (by decide +kernel), by decide +kernel⟩
theorem mt_468 : Cond.initialized "java/lang/System" ∈ hs_tbl := List.mem_filter.mpr ⟨List.mem_of_getElem? (i := 102) (by decide +kernel), by decide +kernel⟩
theorem mc_X5_136 : Cond.methodLink RX5 136 arraycopyName ∈ hs_tbl ∧ Cond.native arraycopyName ∈ hs_tbl ∧ Cond.static arraycopyName ∈ hs_tbl ∧ Cond.initialized "java/lang/System" ∈ hs_tbl := ⟨mt_465, mt_466, mt_467, mt_468⟩
theorem mt_469 : Cond.methodLink "UnitTurns$Setup" (28 : Nat) ({ cls := "java/lang/System", name := "arraycopy", desc := "(Ljava/lang/Object;ILjava/lang/Object;II)V" } : MethodName) ∈ hs_tbl := List.mem_filter.mpr ⟨List.mem_of_getElem? (i := 390) (by decide +kernel), by decide +kernel⟩
theorem mc_X6_28 : Cond.methodLink RX6 28 arraycopyName ∈ hs_tbl ∧ Cond.native arraycopyName ∈ hs_tbl ∧ Cond.static arraycopyName ∈ hs_tbl ∧ Cond.initialized "java/lang/System" ∈ hs_tbl := ⟨mt_469, mt_466, mt_467, mt_468⟩
theorem mt_470 : Cond.code ({ cls := "UnitTurns$Setup", name := "isHold", desc := "(I)Z" } : MethodName) prog_8_method_13_code (1 : Nat) (Option.some FieldType.boolean) ∈ hs_tbl := List.mem_filter.mpr ⟨List.mem_of_getElem? (i := 399) (by decide +kernel), by decide +kernel⟩
theorem mt_471 : Cond.methodLink "UnitTurns$Setup" (43 : Nat) ({ cls := "UnitTurns$Setup", name := "isHold", desc := "(I)Z" } : MethodName) ∈ hs_tbl := List.mem_filter.mpr ⟨List.mem_of_getElem? (i := 397) (by decide +kernel), by decide +kernel⟩
theorem mt_472 : Cond.static ({ cls := "UnitTurns$Setup", name := "isHold", desc := "(I)Z" } : MethodName) ∈ hs_tbl := List.mem_filter.mpr ⟨List.mem_of_getElem? (i := 398) (by decide +kernel), by decide +kernel⟩
theorem ms_X6_43 : hs_MS RX6 43 yX6_isHold cX6_isHold 1 (some .boolean) 1 := ⟨⟨mt_470, mt_123, mt_471, ⟨by decide +kernel, by decide +kernel, by decide +kernel⟩, by decide⟩, mt_472⟩
theorem mt_473 : Cond.methodLink "UnitTurns$Setup" (47 : Nat) ({ cls := "UnitTurns$Setup", name := "hasKind", desc := "(I)Z" } : MethodName) ∈ hs_tbl := List.mem_filter.mpr ⟨List.mem_of_getElem? (i := 519) (by decide +kernel), by decide +kernel⟩
theorem mv_X6_47 : hs_MV RX6 47 yX6_hasKind cX6_hasKind 2 (some .boolean) 1 6 := ⟨⟨mt_140, mt_123, mt_473, ⟨by decide +kernel, by decide +kernel, by decide +kernel⟩, by decide⟩, mt_142, mt_143, ⟨_, rfl, rfl⟩⟩
theorem mt_474 : Cond.methodLink "UnitTurns$Setup" (50 : Nat) ({ cls := "UnitTurns$Setup", name := "hasInstruction", desc := "(I)Z" } : MethodName) ∈ hs_tbl := List.mem_filter.mpr ⟨List.mem_of_getElem? (i := 528) (by decide +kernel), by decide +kernel⟩
theorem mv_X6_50 : hs_MV RX6 50 yX6_hasInstruction cX6_hasInstruction 2 (some .boolean) 1 6 := ⟨⟨mt_189, mt_123, mt_474, ⟨by decide +kernel, by decide +kernel, by decide +kernel⟩, by decide⟩, mt_191, mt_192, ⟨_, rfl, rfl⟩⟩
theorem mt_475 : Cond.code ({ cls := "UnitTurns$Setup", name := "reaches", desc := "(II)Z" } : MethodName) prog_8_method_15_code (6 : Nat) (Option.some FieldType.boolean) ∈ hs_tbl := List.mem_filter.mpr ⟨List.mem_of_getElem? (i := 535) (by decide +kernel), by decide +kernel⟩
theorem mt_476 : Cond.methodLink "UnitTurns$Setup" (53 : Nat) ({ cls := "UnitTurns$Setup", name := "reaches", desc := "(II)Z" } : MethodName) ∈ hs_tbl := List.mem_filter.mpr ⟨List.mem_of_getElem? (i := 532) (by decide +kernel), by decide +kernel⟩
theorem mt_477 : Cond.instanceMethod ({ cls := "UnitTurns$Setup", name := "reaches", desc := "(II)Z" } : MethodName) ∈ hs_tbl := List.mem_filter.mpr ⟨List.mem_of_getElem? (i := 534) (by decide +kernel), by decide +kernel⟩
theorem mt_478 : Cond.selects "UnitTurns$Setup" ⟨"UnitTurns$Setup", "reaches", "(II)Z"⟩ ⟨"UnitTurns$Setup", "reaches", "(II)Z"⟩ ∈ hs_tbl := List.mem_filter.mpr ⟨List.mem_of_getElem? (i := 9) (by decide +kernel), by decide +kernel⟩
theorem mv_X6_53 : hs_MV RX6 53 yX6_reaches cX6_reaches 6 (some .boolean) 2 6 := ⟨⟨mt_475, mt_123, mt_476, ⟨by decide +kernel, by decide +kernel, by decide +kernel⟩, by decide⟩, mt_477, mt_478, ⟨_, rfl, rfl⟩⟩
theorem mn_X6_57 : hs_MN RX6 57 yX8_pair "UnitTurns" cX8_pair 2 (some .int) 2 := ⟨mt_283, mt_132, by decide +kernel, ⟨by decide +kernel, by decide +kernel, by decide +kernel⟩, by decide, mt_284⟩
theorem mt_479 : Cond.code ({ cls := "UnitTurns$Setup", name := "clearNeedsFrom", desc := "(I)V" } : MethodName) prog_8_method_14_code (3 : Nat) (Option.none : Option FieldType) ∈ hs_tbl := List.mem_filter.mpr ⟨List.mem_of_getElem? (i := 554) (by decide +kernel), by decide +kernel⟩
theorem mt_480 : Cond.methodLink "UnitTurns$Setup" (61 : Nat) ({ cls := "UnitTurns$Setup", name := "clearNeedsFrom", desc := "(I)V" } : MethodName) ∈ hs_tbl := List.mem_filter.mpr ⟨List.mem_of_getElem? (i := 551) (by decide +kernel), by decide +kernel⟩
theorem mt_481 : Cond.instanceMethod ({ cls := "UnitTurns$Setup", name := "clearNeedsFrom", desc := "(I)V" } : MethodName) ∈ hs_tbl := List.mem_filter.mpr ⟨List.mem_of_getElem? (i := 553) (by decide +kernel), by decide +kernel⟩
theorem mt_482 : Cond.selects "UnitTurns$Setup" ⟨"UnitTurns$Setup", "clearNeedsFrom", "(I)V"⟩ ⟨"UnitTurns$Setup", "clearNeedsFrom", "(I)V"⟩ ∈ hs_tbl := List.mem_filter.mpr ⟨List.mem_of_getElem? (i := 11) (by decide +kernel), by decide +kernel⟩
theorem mv_X6_61 : hs_MV RX6 61 yX6_clearNeedsFrom cX6_clearNeedsFrom 3 none 1 6 := ⟨⟨mt_479, mt_123, mt_480, ⟨by decide +kernel, by decide +kernel, by decide +kernel⟩, by decide⟩, mt_481, mt_482, ⟨_, rfl, rfl⟩⟩
theorem mt_483 : Cond.code ({ cls := "UnitTurns$Setup", name := "neededBy", desc := "(I)I" } : MethodName) prog_8_method_16_code (4 : Nat) (Option.some FieldType.int) ∈ hs_tbl := List.mem_filter.mpr ⟨List.mem_of_getElem? (i := 539) (by decide +kernel), by decide +kernel⟩
theorem mt_484 : Cond.methodLink "UnitTurns$Setup" (65 : Nat) ({ cls := "UnitTurns$Setup", name := "neededBy", desc := "(I)I" } : MethodName) ∈ hs_tbl := List.mem_filter.mpr ⟨List.mem_of_getElem? (i := 536) (by decide +kernel), by decide +kernel⟩
theorem mt_485 : Cond.instanceMethod ({ cls := "UnitTurns$Setup", name := "neededBy", desc := "(I)I" } : MethodName) ∈ hs_tbl := List.mem_filter.mpr ⟨List.mem_of_getElem? (i := 538) (by decide +kernel), by decide +kernel⟩
theorem mt_486 : Cond.selects "UnitTurns$Setup" ⟨"UnitTurns$Setup", "neededBy", "(I)I"⟩ ⟨"UnitTurns$Setup", "neededBy", "(I)I"⟩ ∈ hs_tbl := List.mem_filter.mpr ⟨List.mem_of_getElem? (i := 10) (by decide +kernel), by decide +kernel⟩
theorem mv_X6_65 : hs_MV RX6 65 yX6_neededBy cX6_neededBy 4 (some .int) 1 6 := ⟨⟨mt_483, mt_123, mt_484, ⟨by decide +kernel, by decide +kernel, by decide +kernel⟩, by decide⟩, mt_485, mt_486, ⟨_, rfl, rfl⟩⟩
theorem mt_487 : Cond.methodLink "UnitTurns$Trail" (22 : Nat) ({ cls := "UnitTurns$Setup", name := "copyFrom", desc := "(LUnitTurns$Setup;)V" } : MethodName) ∈ hs_tbl := List.mem_filter.mpr ⟨List.mem_of_getElem? (i := 412) (by decide +kernel), by decide +kernel⟩
theorem mv_X7_22 : hs_MV RX7 22 yX6_copyFrom cX6_copyFrom 2 none 1 6 := ⟨⟨mt_122, mt_123, mt_487, ⟨by decide +kernel, by decide +kernel, by decide +kernel⟩, by decide⟩, mt_125, mt_126, ⟨_, rfl, rfl⟩⟩
theorem mt_488 : Cond.code ({ cls := "UnitTurns", name := "kind", desc := "(IIII)I" } : MethodName) prog_1_method_2_code (5 : Nat) (Option.some FieldType.int) ∈ hs_tbl := List.mem_filter.mpr ⟨List.mem_of_getElem? (i := 385) (by decide +kernel), by decide +kernel⟩
theorem mt_489 : Cond.methodLink "UnitTurnsLaw" (13 : Nat) ({ cls := "UnitTurns", name := "kind", desc := "(IIII)I" } : MethodName) ∈ hs_tbl := List.mem_filter.mpr ⟨List.mem_of_getElem? (i := 382) (by decide +kernel), by decide +kernel⟩
theorem mt_490 : Cond.instanceMethod ({ cls := "UnitTurns", name := "kind", desc := "(IIII)I" } : MethodName) ∈ hs_tbl := List.mem_filter.mpr ⟨List.mem_of_getElem? (i := 383) (by decide +kernel), by decide +kernel⟩
theorem mt_491 : Cond.selects "UnitTurns" ({ cls := "UnitTurns", name := "kind", desc := "(IIII)I" } : MethodName) ({ cls := "UnitTurns", name := "kind", desc := "(IIII)I" } : MethodName) ∈ hs_tbl := List.mem_filter.mpr ⟨List.mem_of_getElem? (i := 384) (by decide +kernel), by decide +kernel⟩
theorem mv_L_13 : hs_MV RL 13 yX8_kind cX8_kind 5 (some .int) 4 8 := ⟨⟨mt_488, mt_132, mt_489, ⟨by decide +kernel, by decide +kernel, by decide +kernel⟩, by decide⟩, mt_490, mt_491, ⟨_, rfl, rfl⟩⟩
theorem mt_492 : Cond.code ({ cls := "UnitTurnsModel", name := "kind", desc := "(IIII)I" } : MethodName) prog_11_method_22_code (5 : Nat) (Option.some FieldType.int) ∈ hs_tbl := List.mem_filter.mpr ⟨List.mem_of_getElem? (i := 928) (by decide +kernel), by decide +kernel⟩
theorem mt_493 : Cond.initialized "UnitTurnsModel" ∈ hs_tbl := List.mem_filter.mpr ⟨List.mem_of_getElem? (i := 101) (by decide +kernel), by decide +kernel⟩
theorem mt_494 : Cond.methodLink "UnitTurnsLaw" (17 : Nat) ({ cls := "UnitTurnsModel", name := "kind", desc := "(IIII)I" } : MethodName) ∈ hs_tbl := List.mem_filter.mpr ⟨List.mem_of_getElem? (i := 925) (by decide +kernel), by decide +kernel⟩
theorem mt_495 : Cond.instanceMethod ({ cls := "UnitTurnsModel", name := "kind", desc := "(IIII)I" } : MethodName) ∈ hs_tbl := List.mem_filter.mpr ⟨List.mem_of_getElem? (i := 926) (by decide +kernel), by decide +kernel⟩
theorem mt_496 : Cond.selects "UnitTurnsModel" ({ cls := "UnitTurnsModel", name := "kind", desc := "(IIII)I" } : MethodName) ({ cls := "UnitTurnsModel", name := "kind", desc := "(IIII)I" } : MethodName) ∈ hs_tbl := List.mem_filter.mpr ⟨List.mem_of_getElem? (i := 927) (by decide +kernel), by decide +kernel⟩
theorem mv_L_17 : hs_MV RL 17 yX9_kind cX9_kind 5 (some .int) 4 9 := ⟨⟨mt_492, mt_493, mt_494, ⟨by decide +kernel, by decide +kernel, by decide +kernel⟩, by decide⟩, mt_495, mt_496, ⟨_, rfl, rfl⟩⟩
theorem mt_497 : Cond.code ({ cls := "UnitTurns", name := "sets", desc := "(II)I" } : MethodName) prog_1_method_3_code (3 : Nat) (Option.some FieldType.int) ∈ hs_tbl := List.mem_filter.mpr ⟨List.mem_of_getElem? (i := 420) (by decide +kernel), by decide +kernel⟩
theorem mt_498 : Cond.methodLink "UnitTurnsLaw" (18 : Nat) ({ cls := "UnitTurns", name := "sets", desc := "(II)I" } : MethodName) ∈ hs_tbl := List.mem_filter.mpr ⟨List.mem_of_getElem? (i := 417) (by decide +kernel), by decide +kernel⟩
theorem mt_499 : Cond.instanceMethod ({ cls := "UnitTurns", name := "sets", desc := "(II)I" } : MethodName) ∈ hs_tbl := List.mem_filter.mpr ⟨List.mem_of_getElem? (i := 418) (by decide +kernel), by decide +kernel⟩
theorem mt_500 : Cond.selects "UnitTurns" ({ cls := "UnitTurns", name := "sets", desc := "(II)I" } : MethodName) ({ cls := "UnitTurns", name := "sets", desc := "(II)I" } : MethodName) ∈ hs_tbl := List.mem_filter.mpr ⟨List.mem_of_getElem? (i := 419) (by decide +kernel), by decide +kernel⟩
theorem mv_L_18 : hs_MV RL 18 yX8_sets cX8_sets 3 (some .int) 2 8 := ⟨⟨mt_497, mt_132, mt_498, ⟨by decide +kernel, by decide +kernel, by decide +kernel⟩, by decide⟩, mt_499, mt_500, ⟨_, rfl, rfl⟩⟩
theorem mt_501 : Cond.code ({ cls := "UnitTurnsModel", name := "sets", desc := "(II)I" } : MethodName) prog_11_method_23_code (3 : Nat) (Option.some FieldType.int) ∈ hs_tbl := List.mem_filter.mpr ⟨List.mem_of_getElem? (i := 951) (by decide +kernel), by decide +kernel⟩
theorem mt_502 : Cond.methodLink "UnitTurnsLaw" (22 : Nat) ({ cls := "UnitTurnsModel", name := "sets", desc := "(II)I" } : MethodName) ∈ hs_tbl := List.mem_filter.mpr ⟨List.mem_of_getElem? (i := 948) (by decide +kernel), by decide +kernel⟩
theorem mt_503 : Cond.instanceMethod ({ cls := "UnitTurnsModel", name := "sets", desc := "(II)I" } : MethodName) ∈ hs_tbl := List.mem_filter.mpr ⟨List.mem_of_getElem? (i := 949) (by decide +kernel), by decide +kernel⟩
theorem mt_504 : Cond.selects "UnitTurnsModel" ({ cls := "UnitTurnsModel", name := "sets", desc := "(II)I" } : MethodName) ({ cls := "UnitTurnsModel", name := "sets", desc := "(II)I" } : MethodName) ∈ hs_tbl := List.mem_filter.mpr ⟨List.mem_of_getElem? (i := 950) (by decide +kernel), by decide +kernel⟩
theorem mv_L_22 : hs_MV RL 22 yX9_sets cX9_sets 3 (some .int) 2 9 := ⟨⟨mt_501, mt_493, mt_502, ⟨by decide +kernel, by decide +kernel, by decide +kernel⟩, by decide⟩, mt_503, mt_504, ⟨_, rfl, rfl⟩⟩
theorem mt_505 : Cond.code ({ cls := "UnitTurns", name := "of", desc := "(II)I" } : MethodName) prog_1_method_4_code (3 : Nat) (Option.some FieldType.int) ∈ hs_tbl := List.mem_filter.mpr ⟨List.mem_of_getElem? (i := 428) (by decide +kernel), by decide +kernel⟩
theorem mt_506 : Cond.methodLink "UnitTurnsLaw" (23 : Nat) ({ cls := "UnitTurns", name := "of", desc := "(II)I" } : MethodName) ∈ hs_tbl := List.mem_filter.mpr ⟨List.mem_of_getElem? (i := 425) (by decide +kernel), by decide +kernel⟩
theorem mt_507 : Cond.instanceMethod ({ cls := "UnitTurns", name := "of", desc := "(II)I" } : MethodName) ∈ hs_tbl := List.mem_filter.mpr ⟨List.mem_of_getElem? (i := 426) (by decide +kernel), by decide +kernel⟩
theorem mt_508 : Cond.selects "UnitTurns" ({ cls := "UnitTurns", name := "of", desc := "(II)I" } : MethodName) ({ cls := "UnitTurns", name := "of", desc := "(II)I" } : MethodName) ∈ hs_tbl := List.mem_filter.mpr ⟨List.mem_of_getElem? (i := 427) (by decide +kernel), by decide +kernel⟩
theorem mv_L_23 : hs_MV RL 23 yX8_of cX8_of 3 (some .int) 2 8 := ⟨⟨mt_505, mt_132, mt_506, ⟨by decide +kernel, by decide +kernel, by decide +kernel⟩, by decide⟩, mt_507, mt_508, ⟨_, rfl, rfl⟩⟩
theorem mt_509 : Cond.code ({ cls := "UnitTurnsModel", name := "of", desc := "(II)I" } : MethodName) prog_11_method_59_code (3 : Nat) (Option.some FieldType.int) ∈ hs_tbl := List.mem_filter.mpr ⟨List.mem_of_getElem? (i := 1142) (by decide +kernel), by decide +kernel⟩
theorem mt_510 : Cond.methodLink "UnitTurnsLaw" (26 : Nat) ({ cls := "UnitTurnsModel", name := "of", desc := "(II)I" } : MethodName) ∈ hs_tbl := List.mem_filter.mpr ⟨List.mem_of_getElem? (i := 1139) (by decide +kernel), by decide +kernel⟩
theorem mt_511 : Cond.instanceMethod ({ cls := "UnitTurnsModel", name := "of", desc := "(II)I" } : MethodName) ∈ hs_tbl := List.mem_filter.mpr ⟨List.mem_of_getElem? (i := 1140) (by decide +kernel), by decide +kernel⟩
theorem mt_512 : Cond.selects "UnitTurnsModel" ({ cls := "UnitTurnsModel", name := "of", desc := "(II)I" } : MethodName) ({ cls := "UnitTurnsModel", name := "of", desc := "(II)I" } : MethodName) ∈ hs_tbl := List.mem_filter.mpr ⟨List.mem_of_getElem? (i := 1141) (by decide +kernel), by decide +kernel⟩
theorem mv_L_26 : hs_MV RL 26 yX9_of cX9_of 3 (some .int) 2 9 := ⟨⟨mt_509, mt_493, mt_510, ⟨by decide +kernel, by decide +kernel, by decide +kernel⟩, by decide⟩, mt_511, mt_512, ⟨_, rfl, rfl⟩⟩
theorem mt_513 : Cond.code ({ cls := "UnitTurns", name := "states", desc := "()I" } : MethodName) prog_1_method_5_code (1 : Nat) (Option.some FieldType.int) ∈ hs_tbl := List.mem_filter.mpr ⟨List.mem_of_getElem? (i := 447) (by decide +kernel), by decide +kernel⟩
theorem mt_514 : Cond.methodLink "UnitTurnsLaw" (27 : Nat) ({ cls := "UnitTurns", name := "states", desc := "()I" } : MethodName) ∈ hs_tbl := List.mem_filter.mpr ⟨List.mem_of_getElem? (i := 444) (by decide +kernel), by decide +kernel⟩
theorem mt_515 : Cond.instanceMethod ({ cls := "UnitTurns", name := "states", desc := "()I" } : MethodName) ∈ hs_tbl := List.mem_filter.mpr ⟨List.mem_of_getElem? (i := 445) (by decide +kernel), by decide +kernel⟩
theorem mt_516 : Cond.selects "UnitTurns" ({ cls := "UnitTurns", name := "states", desc := "()I" } : MethodName) ({ cls := "UnitTurns", name := "states", desc := "()I" } : MethodName) ∈ hs_tbl := List.mem_filter.mpr ⟨List.mem_of_getElem? (i := 446) (by decide +kernel), by decide +kernel⟩
theorem mv_L_27 : hs_MV RL 27 yX8_states cX8_states 1 (some .int) 0 8 := ⟨⟨mt_513, mt_132, mt_514, ⟨by decide +kernel, by decide +kernel, by decide +kernel⟩, by decide⟩, mt_515, mt_516, ⟨_, rfl, rfl⟩⟩
theorem mt_517 : Cond.code ({ cls := "UnitTurnsModel", name := "states", desc := "()I" } : MethodName) prog_11_method_34_code (1 : Nat) (Option.some FieldType.int) ∈ hs_tbl := List.mem_filter.mpr ⟨List.mem_of_getElem? (i := 1002) (by decide +kernel), by decide +kernel⟩
theorem mt_518 : Cond.methodLink "UnitTurnsLaw" (31 : Nat) ({ cls := "UnitTurnsModel", name := "states", desc := "()I" } : MethodName) ∈ hs_tbl := List.mem_filter.mpr ⟨List.mem_of_getElem? (i := 999) (by decide +kernel), by decide +kernel⟩
theorem mt_519 : Cond.instanceMethod ({ cls := "UnitTurnsModel", name := "states", desc := "()I" } : MethodName) ∈ hs_tbl := List.mem_filter.mpr ⟨List.mem_of_getElem? (i := 1000) (by decide +kernel), by decide +kernel⟩
theorem mt_520 : Cond.selects "UnitTurnsModel" ({ cls := "UnitTurnsModel", name := "states", desc := "()I" } : MethodName) ({ cls := "UnitTurnsModel", name := "states", desc := "()I" } : MethodName) ∈ hs_tbl := List.mem_filter.mpr ⟨List.mem_of_getElem? (i := 1001) (by decide +kernel), by decide +kernel⟩
theorem mv_L_31 : hs_MV RL 31 yX9_states cX9_states 1 (some .int) 0 9 := ⟨⟨mt_517, mt_493, mt_518, ⟨by decide +kernel, by decide +kernel, by decide +kernel⟩, by decide⟩, mt_519, mt_520, ⟨_, rfl, rfl⟩⟩
theorem mt_521 : Cond.code ({ cls := "UnitTurns", name := "state", desc := "(II)I" } : MethodName) prog_1_method_6_code (3 : Nat) (Option.some FieldType.int) ∈ hs_tbl := List.mem_filter.mpr ⟨List.mem_of_getElem? (i := 485) (by decide +kernel), by decide +kernel⟩
theorem mt_522 : Cond.methodLink "UnitTurnsLaw" (32 : Nat) ({ cls := "UnitTurns", name := "state", desc := "(II)I" } : MethodName) ∈ hs_tbl := List.mem_filter.mpr ⟨List.mem_of_getElem? (i := 482) (by decide +kernel), by decide +kernel⟩
theorem mt_523 : Cond.instanceMethod ({ cls := "UnitTurns", name := "state", desc := "(II)I" } : MethodName) ∈ hs_tbl := List.mem_filter.mpr ⟨List.mem_of_getElem? (i := 483) (by decide +kernel), by decide +kernel⟩
theorem mt_524 : Cond.selects "UnitTurns" ({ cls := "UnitTurns", name := "state", desc := "(II)I" } : MethodName) ({ cls := "UnitTurns", name := "state", desc := "(II)I" } : MethodName) ∈ hs_tbl := List.mem_filter.mpr ⟨List.mem_of_getElem? (i := 484) (by decide +kernel), by decide +kernel⟩
theorem mv_L_32 : hs_MV RL 32 yX8_state cX8_state 3 (some .int) 2 8 := ⟨⟨mt_521, mt_132, mt_522, ⟨by decide +kernel, by decide +kernel, by decide +kernel⟩, by decide⟩, mt_523, mt_524, ⟨_, rfl, rfl⟩⟩
theorem mt_525 : Cond.code ({ cls := "UnitTurnsModel", name := "state", desc := "(II)I" } : MethodName) prog_11_method_35_code (3 : Nat) (Option.some FieldType.int) ∈ hs_tbl := List.mem_filter.mpr ⟨List.mem_of_getElem? (i := 1038) (by decide +kernel), by decide +kernel⟩
theorem mt_526 : Cond.methodLink "UnitTurnsLaw" (35 : Nat) ({ cls := "UnitTurnsModel", name := "state", desc := "(II)I" } : MethodName) ∈ hs_tbl := List.mem_filter.mpr ⟨List.mem_of_getElem? (i := 1035) (by decide +kernel), by decide +kernel⟩
theorem mt_527 : Cond.instanceMethod ({ cls := "UnitTurnsModel", name := "state", desc := "(II)I" } : MethodName) ∈ hs_tbl := List.mem_filter.mpr ⟨List.mem_of_getElem? (i := 1036) (by decide +kernel), by decide +kernel⟩
theorem mt_528 : Cond.selects "UnitTurnsModel" ({ cls := "UnitTurnsModel", name := "state", desc := "(II)I" } : MethodName) ({ cls := "UnitTurnsModel", name := "state", desc := "(II)I" } : MethodName) ∈ hs_tbl := List.mem_filter.mpr ⟨List.mem_of_getElem? (i := 1037) (by decide +kernel), by decide +kernel⟩
theorem mv_L_35 : hs_MV RL 35 yX9_state cX9_state 3 (some .int) 2 9 := ⟨⟨mt_525, mt_493, mt_526, ⟨by decide +kernel, by decide +kernel, by decide +kernel⟩, by decide⟩, mt_527, mt_528, ⟨_, rfl, rfl⟩⟩
theorem mt_529 : Cond.code ({ cls := "UnitTurns", name := "classes", desc := "()I" } : MethodName) prog_1_method_7_code (1 : Nat) (Option.some FieldType.int) ∈ hs_tbl := List.mem_filter.mpr ⟨List.mem_of_getElem? (i := 498) (by decide +kernel), by decide +kernel⟩
theorem mt_530 : Cond.methodLink "UnitTurnsLaw" (36 : Nat) ({ cls := "UnitTurns", name := "classes", desc := "()I" } : MethodName) ∈ hs_tbl := List.mem_filter.mpr ⟨List.mem_of_getElem? (i := 495) (by decide +kernel), by decide +kernel⟩
theorem mt_531 : Cond.instanceMethod ({ cls := "UnitTurns", name := "classes", desc := "()I" } : MethodName) ∈ hs_tbl := List.mem_filter.mpr ⟨List.mem_of_getElem? (i := 496) (by decide +kernel), by decide +kernel⟩
theorem mt_532 : Cond.selects "UnitTurns" ({ cls := "UnitTurns", name := "classes", desc := "()I" } : MethodName) ({ cls := "UnitTurns", name := "classes", desc := "()I" } : MethodName) ∈ hs_tbl := List.mem_filter.mpr ⟨List.mem_of_getElem? (i := 497) (by decide +kernel), by decide +kernel⟩
theorem mv_L_36 : hs_MV RL 36 yX8_classes cX8_classes 1 (some .int) 0 8 := ⟨⟨mt_529, mt_132, mt_530, ⟨by decide +kernel, by decide +kernel, by decide +kernel⟩, by decide⟩, mt_531, mt_532, ⟨_, rfl, rfl⟩⟩
theorem mt_533 : Cond.code ({ cls := "UnitTurnsModel", name := "classes", desc := "()I" } : MethodName) prog_11_method_36_code (1 : Nat) (Option.some FieldType.int) ∈ hs_tbl := List.mem_filter.mpr ⟨List.mem_of_getElem? (i := 1042) (by decide +kernel), by decide +kernel⟩
theorem mt_534 : Cond.methodLink "UnitTurnsLaw" (39 : Nat) ({ cls := "UnitTurnsModel", name := "classes", desc := "()I" } : MethodName) ∈ hs_tbl := List.mem_filter.mpr ⟨List.mem_of_getElem? (i := 1039) (by decide +kernel), by decide +kernel⟩
theorem mt_535 : Cond.instanceMethod ({ cls := "UnitTurnsModel", name := "classes", desc := "()I" } : MethodName) ∈ hs_tbl := List.mem_filter.mpr ⟨List.mem_of_getElem? (i := 1040) (by decide +kernel), by decide +kernel⟩
theorem mt_536 : Cond.selects "UnitTurnsModel" ({ cls := "UnitTurnsModel", name := "classes", desc := "()I" } : MethodName) ({ cls := "UnitTurnsModel", name := "classes", desc := "()I" } : MethodName) ∈ hs_tbl := List.mem_filter.mpr ⟨List.mem_of_getElem? (i := 1041) (by decide +kernel), by decide +kernel⟩
theorem mv_L_39 : hs_MV RL 39 yX9_classes cX9_classes 1 (some .int) 0 9 := ⟨⟨mt_533, mt_493, mt_534, ⟨by decide +kernel, by decide +kernel, by decide +kernel⟩, by decide⟩, mt_535, mt_536, ⟨_, rfl, rfl⟩⟩
theorem mt_537 : Cond.code ({ cls := "UnitTurns", name := "alike", desc := "(II)I" } : MethodName) prog_1_method_8_code (3 : Nat) (Option.some FieldType.int) ∈ hs_tbl := List.mem_filter.mpr ⟨List.mem_of_getElem? (i := 506) (by decide +kernel), by decide +kernel⟩
theorem mt_538 : Cond.methodLink "UnitTurnsLaw" (40 : Nat) ({ cls := "UnitTurns", name := "alike", desc := "(II)I" } : MethodName) ∈ hs_tbl := List.mem_filter.mpr ⟨List.mem_of_getElem? (i := 503) (by decide +kernel), by decide +kernel⟩
theorem mt_539 : Cond.instanceMethod ({ cls := "UnitTurns", name := "alike", desc := "(II)I" } : MethodName) ∈ hs_tbl := List.mem_filter.mpr ⟨List.mem_of_getElem? (i := 504) (by decide +kernel), by decide +kernel⟩
theorem mt_540 : Cond.selects "UnitTurns" ({ cls := "UnitTurns", name := "alike", desc := "(II)I" } : MethodName) ({ cls := "UnitTurns", name := "alike", desc := "(II)I" } : MethodName) ∈ hs_tbl := List.mem_filter.mpr ⟨List.mem_of_getElem? (i := 505) (by decide +kernel), by decide +kernel⟩
theorem mv_L_40 : hs_MV RL 40 yX8_alike cX8_alike 3 (some .int) 2 8 := ⟨⟨mt_537, mt_132, mt_538, ⟨by decide +kernel, by decide +kernel, by decide +kernel⟩, by decide⟩, mt_539, mt_540, ⟨_, rfl, rfl⟩⟩
theorem mt_541 : Cond.code ({ cls := "UnitTurnsModel", name := "alike", desc := "(II)I" } : MethodName) prog_11_method_37_code (3 : Nat) (Option.some FieldType.int) ∈ hs_tbl := List.mem_filter.mpr ⟨List.mem_of_getElem? (i := 1046) (by decide +kernel), by decide +kernel⟩
theorem mt_542 : Cond.methodLink "UnitTurnsLaw" (43 : Nat) ({ cls := "UnitTurnsModel", name := "alike", desc := "(II)I" } : MethodName) ∈ hs_tbl := List.mem_filter.mpr ⟨List.mem_of_getElem? (i := 1043) (by decide +kernel), by decide +kernel⟩
theorem mt_543 : Cond.instanceMethod ({ cls := "UnitTurnsModel", name := "alike", desc := "(II)I" } : MethodName) ∈ hs_tbl := List.mem_filter.mpr ⟨List.mem_of_getElem? (i := 1044) (by decide +kernel), by decide +kernel⟩
theorem mt_544 : Cond.selects "UnitTurnsModel" ({ cls := "UnitTurnsModel", name := "alike", desc := "(II)I" } : MethodName) ({ cls := "UnitTurnsModel", name := "alike", desc := "(II)I" } : MethodName) ∈ hs_tbl := List.mem_filter.mpr ⟨List.mem_of_getElem? (i := 1045) (by decide +kernel), by decide +kernel⟩
theorem mv_L_43 : hs_MV RL 43 yX9_alike cX9_alike 3 (some .int) 2 9 := ⟨⟨mt_541, mt_493, mt_542, ⟨by decide +kernel, by decide +kernel, by decide +kernel⟩, by decide⟩, mt_543, mt_544, ⟨_, rfl, rfl⟩⟩
theorem mt_545 : Cond.code ({ cls := "UnitTurns", name := "instruction", desc := "(I)I" } : MethodName) prog_1_method_9_code (2 : Nat) (Option.some FieldType.int) ∈ hs_tbl := List.mem_filter.mpr ⟨List.mem_of_getElem? (i := 514) (by decide +kernel), by decide +kernel⟩
theorem mt_546 : Cond.methodLink "UnitTurnsLaw" (44 : Nat) ({ cls := "UnitTurns", name := "instruction", desc := "(I)I" } : MethodName) ∈ hs_tbl := List.mem_filter.mpr ⟨List.mem_of_getElem? (i := 511) (by decide +kernel), by decide +kernel⟩
theorem mt_547 : Cond.instanceMethod ({ cls := "UnitTurns", name := "instruction", desc := "(I)I" } : MethodName) ∈ hs_tbl := List.mem_filter.mpr ⟨List.mem_of_getElem? (i := 512) (by decide +kernel), by decide +kernel⟩
theorem mt_548 : Cond.selects "UnitTurns" ({ cls := "UnitTurns", name := "instruction", desc := "(I)I" } : MethodName) ({ cls := "UnitTurns", name := "instruction", desc := "(I)I" } : MethodName) ∈ hs_tbl := List.mem_filter.mpr ⟨List.mem_of_getElem? (i := 513) (by decide +kernel), by decide +kernel⟩
theorem mv_L_44 : hs_MV RL 44 yX8_instruction cX8_instruction 2 (some .int) 1 8 := ⟨⟨mt_545, mt_132, mt_546, ⟨by decide +kernel, by decide +kernel, by decide +kernel⟩, by decide⟩, mt_547, mt_548, ⟨_, rfl, rfl⟩⟩
theorem mt_549 : Cond.code ({ cls := "UnitTurnsModel", name := "instruction", desc := "(I)I" } : MethodName) prog_11_method_24_code (2 : Nat) (Option.some FieldType.int) ∈ hs_tbl := List.mem_filter.mpr ⟨List.mem_of_getElem? (i := 959) (by decide +kernel), by decide +kernel⟩
theorem mt_550 : Cond.methodLink "UnitTurnsLaw" (48 : Nat) ({ cls := "UnitTurnsModel", name := "instruction", desc := "(I)I" } : MethodName) ∈ hs_tbl := List.mem_filter.mpr ⟨List.mem_of_getElem? (i := 956) (by decide +kernel), by decide +kernel⟩
theorem mt_551 : Cond.instanceMethod ({ cls := "UnitTurnsModel", name := "instruction", desc := "(I)I" } : MethodName) ∈ hs_tbl := List.mem_filter.mpr ⟨List.mem_of_getElem? (i := 957) (by decide +kernel), by decide +kernel⟩
theorem mt_552 : Cond.selects "UnitTurnsModel" ({ cls := "UnitTurnsModel", name := "instruction", desc := "(I)I" } : MethodName) ({ cls := "UnitTurnsModel", name := "instruction", desc := "(I)I" } : MethodName) ∈ hs_tbl := List.mem_filter.mpr ⟨List.mem_of_getElem? (i := 958) (by decide +kernel), by decide +kernel⟩
theorem mv_L_48 : hs_MV RL 48 yX9_instruction cX9_instruction 2 (some .int) 1 9 := ⟨⟨mt_549, mt_493, mt_550, ⟨by decide +kernel, by decide +kernel, by decide +kernel⟩, by decide⟩, mt_551, mt_552, ⟨_, rfl, rfl⟩⟩
theorem mt_553 : Cond.code ({ cls := "UnitTurns", name := "needs", desc := "(III)I" } : MethodName) prog_1_method_10_code (4 : Nat) (Option.some FieldType.int) ∈ hs_tbl := List.mem_filter.mpr ⟨List.mem_of_getElem? (i := 523) (by decide +kernel), by decide +kernel⟩
theorem mt_554 : Cond.methodLink "UnitTurnsLaw" (49 : Nat) ({ cls := "UnitTurns", name := "needs", desc := "(III)I" } : MethodName) ∈ hs_tbl := List.mem_filter.mpr ⟨List.mem_of_getElem? (i := 520) (by decide +kernel), by decide +kernel⟩
theorem mt_555 : Cond.instanceMethod ({ cls := "UnitTurns", name := "needs", desc := "(III)I" } : MethodName) ∈ hs_tbl := List.mem_filter.mpr ⟨List.mem_of_getElem? (i := 521) (by decide +kernel), by decide +kernel⟩
theorem mt_556 : Cond.selects "UnitTurns" ({ cls := "UnitTurns", name := "needs", desc := "(III)I" } : MethodName) ({ cls := "UnitTurns", name := "needs", desc := "(III)I" } : MethodName) ∈ hs_tbl := List.mem_filter.mpr ⟨List.mem_of_getElem? (i := 522) (by decide +kernel), by decide +kernel⟩
theorem mv_L_49 : hs_MV RL 49 yX8_needs cX8_needs 4 (some .int) 3 8 := ⟨⟨mt_553, mt_132, mt_554, ⟨by decide +kernel, by decide +kernel, by decide +kernel⟩, by decide⟩, mt_555, mt_556, ⟨_, rfl, rfl⟩⟩
theorem mt_557 : Cond.code ({ cls := "UnitTurnsModel", name := "needs", desc := "(III)I" } : MethodName) prog_11_method_25_code (4 : Nat) (Option.some FieldType.int) ∈ hs_tbl := List.mem_filter.mpr ⟨List.mem_of_getElem? (i := 971) (by decide +kernel), by decide +kernel⟩
theorem mt_558 : Cond.methodLink "UnitTurnsLaw" (53 : Nat) ({ cls := "UnitTurnsModel", name := "needs", desc := "(III)I" } : MethodName) ∈ hs_tbl := List.mem_filter.mpr ⟨List.mem_of_getElem? (i := 968) (by decide +kernel), by decide +kernel⟩
theorem mt_559 : Cond.instanceMethod ({ cls := "UnitTurnsModel", name := "needs", desc := "(III)I" } : MethodName) ∈ hs_tbl := List.mem_filter.mpr ⟨List.mem_of_getElem? (i := 969) (by decide +kernel), by decide +kernel⟩
theorem mt_560 : Cond.selects "UnitTurnsModel" ({ cls := "UnitTurnsModel", name := "needs", desc := "(III)I" } : MethodName) ({ cls := "UnitTurnsModel", name := "needs", desc := "(III)I" } : MethodName) ∈ hs_tbl := List.mem_filter.mpr ⟨List.mem_of_getElem? (i := 970) (by decide +kernel), by decide +kernel⟩
theorem mv_L_53 : hs_MV RL 53 yX9_needs cX9_needs 4 (some .int) 3 9 := ⟨⟨mt_557, mt_493, mt_558, ⟨by decide +kernel, by decide +kernel, by decide +kernel⟩, by decide⟩, mt_559, mt_560, ⟨_, rfl, rfl⟩⟩
theorem mt_561 : Cond.code ({ cls := "UnitTurns", name := "drops", desc := "(I)I" } : MethodName) prog_1_method_11_code (2 : Nat) (Option.some FieldType.int) ∈ hs_tbl := List.mem_filter.mpr ⟨List.mem_of_getElem? (i := 546) (by decide +kernel), by decide +kernel⟩
theorem mt_562 : Cond.methodLink "UnitTurnsLaw" (54 : Nat) ({ cls := "UnitTurns", name := "drops", desc := "(I)I" } : MethodName) ∈ hs_tbl := List.mem_filter.mpr ⟨List.mem_of_getElem? (i := 543) (by decide +kernel), by decide +kernel⟩
theorem mt_563 : Cond.instanceMethod ({ cls := "UnitTurns", name := "drops", desc := "(I)I" } : MethodName) ∈ hs_tbl := List.mem_filter.mpr ⟨List.mem_of_getElem? (i := 544) (by decide +kernel), by decide +kernel⟩
theorem mt_564 : Cond.selects "UnitTurns" ({ cls := "UnitTurns", name := "drops", desc := "(I)I" } : MethodName) ({ cls := "UnitTurns", name := "drops", desc := "(I)I" } : MethodName) ∈ hs_tbl := List.mem_filter.mpr ⟨List.mem_of_getElem? (i := 545) (by decide +kernel), by decide +kernel⟩
theorem mv_L_54 : hs_MV RL 54 yX8_drops cX8_drops 2 (some .int) 1 8 := ⟨⟨mt_561, mt_132, mt_562, ⟨by decide +kernel, by decide +kernel, by decide +kernel⟩, by decide⟩, mt_563, mt_564, ⟨_, rfl, rfl⟩⟩
theorem mt_565 : Cond.code ({ cls := "UnitTurnsModel", name := "drops", desc := "(I)I" } : MethodName) prog_11_method_26_code (2 : Nat) (Option.some FieldType.int) ∈ hs_tbl := List.mem_filter.mpr ⟨List.mem_of_getElem? (i := 994) (by decide +kernel), by decide +kernel⟩
theorem mt_566 : Cond.methodLink "UnitTurnsLaw" (57 : Nat) ({ cls := "UnitTurnsModel", name := "drops", desc := "(I)I" } : MethodName) ∈ hs_tbl := List.mem_filter.mpr ⟨List.mem_of_getElem? (i := 991) (by decide +kernel), by decide +kernel⟩
theorem mt_567 : Cond.instanceMethod ({ cls := "UnitTurnsModel", name := "drops", desc := "(I)I" } : MethodName) ∈ hs_tbl := List.mem_filter.mpr ⟨List.mem_of_getElem? (i := 992) (by decide +kernel), by decide +kernel⟩
theorem mt_568 : Cond.selects "UnitTurnsModel" ({ cls := "UnitTurnsModel", name := "drops", desc := "(I)I" } : MethodName) ({ cls := "UnitTurnsModel", name := "drops", desc := "(I)I" } : MethodName) ∈ hs_tbl := List.mem_filter.mpr ⟨List.mem_of_getElem? (i := 993) (by decide +kernel), by decide +kernel⟩
theorem mv_L_57 : hs_MV RL 57 yX9_drops cX9_drops 2 (some .int) 1 9 := ⟨⟨mt_565, mt_493, mt_566, ⟨by decide +kernel, by decide +kernel, by decide +kernel⟩, by decide⟩, mt_567, mt_568, ⟨_, rfl, rfl⟩⟩
theorem mt_569 : Cond.code ({ cls := "UnitTurns", name := "about", desc := "(II)I" } : MethodName) prog_1_method_12_code (3 : Nat) (Option.some FieldType.int) ∈ hs_tbl := List.mem_filter.mpr ⟨List.mem_of_getElem? (i := 558) (by decide +kernel), by decide +kernel⟩
theorem mt_570 : Cond.methodLink "UnitTurnsLaw" (58 : Nat) ({ cls := "UnitTurns", name := "about", desc := "(II)I" } : MethodName) ∈ hs_tbl := List.mem_filter.mpr ⟨List.mem_of_getElem? (i := 555) (by decide +kernel), by decide +kernel⟩
theorem mt_571 : Cond.instanceMethod ({ cls := "UnitTurns", name := "about", desc := "(II)I" } : MethodName) ∈ hs_tbl := List.mem_filter.mpr ⟨List.mem_of_getElem? (i := 556) (by decide +kernel), by decide +kernel⟩
theorem mt_572 : Cond.selects "UnitTurns" ({ cls := "UnitTurns", name := "about", desc := "(II)I" } : MethodName) ({ cls := "UnitTurns", name := "about", desc := "(II)I" } : MethodName) ∈ hs_tbl := List.mem_filter.mpr ⟨List.mem_of_getElem? (i := 557) (by decide +kernel), by decide +kernel⟩
theorem mv_L_58 : hs_MV RL 58 yX8_about cX8_about 3 (some .int) 2 8 := ⟨⟨mt_569, mt_132, mt_570, ⟨by decide +kernel, by decide +kernel, by decide +kernel⟩, by decide⟩, mt_571, mt_572, ⟨_, rfl, rfl⟩⟩
theorem mt_573 : Cond.code ({ cls := "UnitTurnsModel", name := "about", desc := "(II)I" } : MethodName) prog_11_method_61_code (3 : Nat) (Option.some FieldType.int) ∈ hs_tbl := List.mem_filter.mpr ⟨List.mem_of_getElem? (i := 1150) (by decide +kernel), by decide +kernel⟩
theorem mt_574 : Cond.methodLink "UnitTurnsLaw" (61 : Nat) ({ cls := "UnitTurnsModel", name := "about", desc := "(II)I" } : MethodName) ∈ hs_tbl := List.mem_filter.mpr ⟨List.mem_of_getElem? (i := 1147) (by decide +kernel), by decide +kernel⟩
theorem mt_575 : Cond.instanceMethod ({ cls := "UnitTurnsModel", name := "about", desc := "(II)I" } : MethodName) ∈ hs_tbl := List.mem_filter.mpr ⟨List.mem_of_getElem? (i := 1148) (by decide +kernel), by decide +kernel⟩
theorem mt_576 : Cond.selects "UnitTurnsModel" ({ cls := "UnitTurnsModel", name := "about", desc := "(II)I" } : MethodName) ({ cls := "UnitTurnsModel", name := "about", desc := "(II)I" } : MethodName) ∈ hs_tbl := List.mem_filter.mpr ⟨List.mem_of_getElem? (i := 1149) (by decide +kernel), by decide +kernel⟩
theorem mv_L_61 : hs_MV RL 61 yX9_about cX9_about 3 (some .int) 2 9 := ⟨⟨mt_573, mt_493, mt_574, ⟨by decide +kernel, by decide +kernel, by decide +kernel⟩, by decide⟩, mt_575, mt_576, ⟨_, rfl, rfl⟩⟩
theorem mt_577 : Cond.code ({ cls := "UnitTurns", name := "bound", desc := "()I" } : MethodName) prog_1_method_13_code (1 : Nat) (Option.some FieldType.int) ∈ hs_tbl := List.mem_filter.mpr ⟨List.mem_of_getElem? (i := 594) (by decide +kernel), by decide +kernel⟩
theorem mt_578 : Cond.methodLink "UnitTurnsLaw" (62 : Nat) ({ cls := "UnitTurns", name := "bound", desc := "()I" } : MethodName) ∈ hs_tbl := List.mem_filter.mpr ⟨List.mem_of_getElem? (i := 591) (by decide +kernel), by decide +kernel⟩
theorem mt_579 : Cond.instanceMethod ({ cls := "UnitTurns", name := "bound", desc := "()I" } : MethodName) ∈ hs_tbl := List.mem_filter.mpr ⟨List.mem_of_getElem? (i := 592) (by decide +kernel), by decide +kernel⟩
theorem mt_580 : Cond.selects "UnitTurns" ({ cls := "UnitTurns", name := "bound", desc := "()I" } : MethodName) ({ cls := "UnitTurns", name := "bound", desc := "()I" } : MethodName) ∈ hs_tbl := List.mem_filter.mpr ⟨List.mem_of_getElem? (i := 593) (by decide +kernel), by decide +kernel⟩
theorem mv_L_62 : hs_MV RL 62 yX8_bound cX8_bound 1 (some .int) 0 8 := ⟨⟨mt_577, mt_132, mt_578, ⟨by decide +kernel, by decide +kernel, by decide +kernel⟩, by decide⟩, mt_579, mt_580, ⟨_, rfl, rfl⟩⟩
theorem mt_581 : Cond.code ({ cls := "UnitTurnsModel", name := "bound", desc := "()I" } : MethodName) prog_11_method_43_code (1 : Nat) (Option.some FieldType.int) ∈ hs_tbl := List.mem_filter.mpr ⟨List.mem_of_getElem? (i := 1050) (by decide +kernel), by decide +kernel⟩
theorem mt_582 : Cond.methodLink "UnitTurnsLaw" (65 : Nat) ({ cls := "UnitTurnsModel", name := "bound", desc := "()I" } : MethodName) ∈ hs_tbl := List.mem_filter.mpr ⟨List.mem_of_getElem? (i := 1047) (by decide +kernel), by decide +kernel⟩
theorem mt_583 : Cond.instanceMethod ({ cls := "UnitTurnsModel", name := "bound", desc := "()I" } : MethodName) ∈ hs_tbl := List.mem_filter.mpr ⟨List.mem_of_getElem? (i := 1048) (by decide +kernel), by decide +kernel⟩
theorem mt_584 : Cond.selects "UnitTurnsModel" ({ cls := "UnitTurnsModel", name := "bound", desc := "()I" } : MethodName) ({ cls := "UnitTurnsModel", name := "bound", desc := "()I" } : MethodName) ∈ hs_tbl := List.mem_filter.mpr ⟨List.mem_of_getElem? (i := 1049) (by decide +kernel), by decide +kernel⟩
theorem mv_L_65 : hs_MV RL 65 yX9_bound cX9_bound 1 (some .int) 0 9 := ⟨⟨mt_581, mt_493, mt_582, ⟨by decide +kernel, by decide +kernel, by decide +kernel⟩, by decide⟩, mt_583, mt_584, ⟨_, rfl, rfl⟩⟩
theorem mt_585 : Cond.code ({ cls := "UnitTurns", name := "best", desc := "(I)I" } : MethodName) prog_1_method_14_code (2 : Nat) (Option.some FieldType.int) ∈ hs_tbl := List.mem_filter.mpr ⟨List.mem_of_getElem? (i := 609) (by decide +kernel), by decide +kernel⟩
theorem mt_586 : Cond.methodLink "UnitTurnsLaw" (66 : Nat) ({ cls := "UnitTurns", name := "best", desc := "(I)I" } : MethodName) ∈ hs_tbl := List.mem_filter.mpr ⟨List.mem_of_getElem? (i := 606) (by decide +kernel), by decide +kernel⟩
theorem mt_587 : Cond.instanceMethod ({ cls := "UnitTurns", name := "best", desc := "(I)I" } : MethodName) ∈ hs_tbl := List.mem_filter.mpr ⟨List.mem_of_getElem? (i := 607) (by decide +kernel), by decide +kernel⟩
theorem mt_588 : Cond.selects "UnitTurns" ({ cls := "UnitTurns", name := "best", desc := "(I)I" } : MethodName) ({ cls := "UnitTurns", name := "best", desc := "(I)I" } : MethodName) ∈ hs_tbl := List.mem_filter.mpr ⟨List.mem_of_getElem? (i := 608) (by decide +kernel), by decide +kernel⟩
theorem mv_L_66 : hs_MV RL 66 yX8_best cX8_best 2 (some .int) 1 8 := ⟨⟨mt_585, mt_132, mt_586, ⟨by decide +kernel, by decide +kernel, by decide +kernel⟩, by decide⟩, mt_587, mt_588, ⟨_, rfl, rfl⟩⟩
theorem mt_589 : Cond.code ({ cls := "UnitTurnsModel", name := "best", desc := "(I)I" } : MethodName) prog_11_method_51_code (3 : Nat) (Option.some FieldType.int) ∈ hs_tbl := List.mem_filter.mpr ⟨List.mem_of_getElem? (i := 1086) (by decide +kernel), by decide +kernel⟩
theorem mt_590 : Cond.methodLink "UnitTurnsLaw" (69 : Nat) ({ cls := "UnitTurnsModel", name := "best", desc := "(I)I" } : MethodName) ∈ hs_tbl := List.mem_filter.mpr ⟨List.mem_of_getElem? (i := 1083) (by decide +kernel), by decide +kernel⟩
theorem mt_591 : Cond.instanceMethod ({ cls := "UnitTurnsModel", name := "best", desc := "(I)I" } : MethodName) ∈ hs_tbl := List.mem_filter.mpr ⟨List.mem_of_getElem? (i := 1084) (by decide +kernel), by decide +kernel⟩
theorem mt_592 : Cond.selects "UnitTurnsModel" ({ cls := "UnitTurnsModel", name := "best", desc := "(I)I" } : MethodName) ({ cls := "UnitTurnsModel", name := "best", desc := "(I)I" } : MethodName) ∈ hs_tbl := List.mem_filter.mpr ⟨List.mem_of_getElem? (i := 1085) (by decide +kernel), by decide +kernel⟩
theorem mv_L_69 : hs_MV RL 69 yX9_best cX9_best 3 (some .int) 1 9 := ⟨⟨mt_589, mt_493, mt_590, ⟨by decide +kernel, by decide +kernel, by decide +kernel⟩, by decide⟩, mt_591, mt_592, ⟨_, rfl, rfl⟩⟩
theorem mt_593 : Cond.code ({ cls := "UnitTurns", name := "ranked", desc := "(II)I" } : MethodName) prog_1_method_15_code (4 : Nat) (Option.some FieldType.int) ∈ hs_tbl := List.mem_filter.mpr ⟨List.mem_of_getElem? (i := 701) (by decide +kernel), by decide +kernel⟩
theorem mt_594 : Cond.methodLink "UnitTurnsLaw" (70 : Nat) ({ cls := "UnitTurns", name := "ranked", desc := "(II)I" } : MethodName) ∈ hs_tbl := List.mem_filter.mpr ⟨List.mem_of_getElem? (i := 698) (by decide +kernel), by decide +kernel⟩
theorem mt_595 : Cond.instanceMethod ({ cls := "UnitTurns", name := "ranked", desc := "(II)I" } : MethodName) ∈ hs_tbl := List.mem_filter.mpr ⟨List.mem_of_getElem? (i := 699) (by decide +kernel), by decide +kernel⟩
theorem mt_596 : Cond.selects "UnitTurns" ({ cls := "UnitTurns", name := "ranked", desc := "(II)I" } : MethodName) ({ cls := "UnitTurns", name := "ranked", desc := "(II)I" } : MethodName) ∈ hs_tbl := List.mem_filter.mpr ⟨List.mem_of_getElem? (i := 700) (by decide +kernel), by decide +kernel⟩
theorem mv_L_70 : hs_MV RL 70 yX8_ranked cX8_ranked 4 (some .int) 2 8 := ⟨⟨mt_593, mt_132, mt_594, ⟨by decide +kernel, by decide +kernel, by decide +kernel⟩, by decide⟩, mt_595, mt_596, ⟨_, rfl, rfl⟩⟩
theorem mt_597 : Cond.code ({ cls := "UnitTurnsModel", name := "ranked", desc := "(II)I" } : MethodName) prog_11_method_56_code (4 : Nat) (Option.some FieldType.int) ∈ hs_tbl := List.mem_filter.mpr ⟨List.mem_of_getElem? (i := 1118) (by decide +kernel), by decide +kernel⟩
theorem mt_598 : Cond.methodLink "UnitTurnsLaw" (73 : Nat) ({ cls := "UnitTurnsModel", name := "ranked", desc := "(II)I" } : MethodName) ∈ hs_tbl := List.mem_filter.mpr ⟨List.mem_of_getElem? (i := 1115) (by decide +kernel), by decide +kernel⟩
theorem mt_599 : Cond.instanceMethod ({ cls := "UnitTurnsModel", name := "ranked", desc := "(II)I" } : MethodName) ∈ hs_tbl := List.mem_filter.mpr ⟨List.mem_of_getElem? (i := 1116) (by decide +kernel), by decide +kernel⟩
theorem mt_600 : Cond.selects "UnitTurnsModel" ({ cls := "UnitTurnsModel", name := "ranked", desc := "(II)I" } : MethodName) ({ cls := "UnitTurnsModel", name := "ranked", desc := "(II)I" } : MethodName) ∈ hs_tbl := List.mem_filter.mpr ⟨List.mem_of_getElem? (i := 1117) (by decide +kernel), by decide +kernel⟩
theorem mv_L_73 : hs_MV RL 73 yX9_ranked cX9_ranked 4 (some .int) 2 9 := ⟨⟨mt_597, mt_493, mt_598, ⟨by decide +kernel, by decide +kernel, by decide +kernel⟩, by decide⟩, mt_599, mt_600, ⟨_, rfl, rfl⟩⟩
theorem mt_601 : Cond.code ({ cls := "UnitTurns", name := "plan", desc := "(I)I" } : MethodName) prog_1_method_16_code (2 : Nat) (Option.some FieldType.int) ∈ hs_tbl := List.mem_filter.mpr ⟨List.mem_of_getElem? (i := 742) (by decide +kernel), by decide +kernel⟩
theorem mt_602 : Cond.methodLink "UnitTurnsLaw" (74 : Nat) ({ cls := "UnitTurns", name := "plan", desc := "(I)I" } : MethodName) ∈ hs_tbl := List.mem_filter.mpr ⟨List.mem_of_getElem? (i := 739) (by decide +kernel), by decide +kernel⟩
theorem mt_603 : Cond.instanceMethod ({ cls := "UnitTurns", name := "plan", desc := "(I)I" } : MethodName) ∈ hs_tbl := List.mem_filter.mpr ⟨List.mem_of_getElem? (i := 740) (by decide +kernel), by decide +kernel⟩
theorem mt_604 : Cond.selects "UnitTurns" ({ cls := "UnitTurns", name := "plan", desc := "(I)I" } : MethodName) ({ cls := "UnitTurns", name := "plan", desc := "(I)I" } : MethodName) ∈ hs_tbl := List.mem_filter.mpr ⟨List.mem_of_getElem? (i := 741) (by decide +kernel), by decide +kernel⟩
theorem mv_L_74 : hs_MV RL 74 yX8_plan cX8_plan 2 (some .int) 1 8 := ⟨⟨mt_601, mt_132, mt_602, ⟨by decide +kernel, by decide +kernel, by decide +kernel⟩, by decide⟩, mt_603, mt_604, ⟨_, rfl, rfl⟩⟩
theorem mt_605 : Cond.code ({ cls := "UnitTurnsModel", name := "plan", desc := "(I)I" } : MethodName) prog_11_method_57_code (6 : Nat) (Option.some FieldType.int) ∈ hs_tbl := List.mem_filter.mpr ⟨List.mem_of_getElem? (i := 1138) (by decide +kernel), by decide +kernel⟩
theorem mt_606 : Cond.methodLink "UnitTurnsLaw" (77 : Nat) ({ cls := "UnitTurnsModel", name := "plan", desc := "(I)I" } : MethodName) ∈ hs_tbl := List.mem_filter.mpr ⟨List.mem_of_getElem? (i := 1135) (by decide +kernel), by decide +kernel⟩
theorem mt_607 : Cond.instanceMethod ({ cls := "UnitTurnsModel", name := "plan", desc := "(I)I" } : MethodName) ∈ hs_tbl := List.mem_filter.mpr ⟨List.mem_of_getElem? (i := 1136) (by decide +kernel), by decide +kernel⟩
theorem mt_608 : Cond.selects "UnitTurnsModel" ({ cls := "UnitTurnsModel", name := "plan", desc := "(I)I" } : MethodName) ({ cls := "UnitTurnsModel", name := "plan", desc := "(I)I" } : MethodName) ∈ hs_tbl := List.mem_filter.mpr ⟨List.mem_of_getElem? (i := 1137) (by decide +kernel), by decide +kernel⟩
theorem mv_L_77 : hs_MV RL 77 yX9_plan cX9_plan 6 (some .int) 1 9 := ⟨⟨mt_605, mt_493, mt_606, ⟨by decide +kernel, by decide +kernel, by decide +kernel⟩, by decide⟩, mt_607, mt_608, ⟨_, rfl, rfl⟩⟩
theorem mt_609 : Cond.code ({ cls := "UnitTurns", name := "type", desc := "(I)I" } : MethodName) prog_1_method_17_code (2 : Nat) (Option.some FieldType.int) ∈ hs_tbl := List.mem_filter.mpr ⟨List.mem_of_getElem? (i := 759) (by decide +kernel), by decide +kernel⟩
theorem mt_610 : Cond.methodLink "UnitTurnsLaw" (78 : Nat) ({ cls := "UnitTurns", name := "type", desc := "(I)I" } : MethodName) ∈ hs_tbl := List.mem_filter.mpr ⟨List.mem_of_getElem? (i := 756) (by decide +kernel), by decide +kernel⟩
theorem mt_611 : Cond.instanceMethod ({ cls := "UnitTurns", name := "type", desc := "(I)I" } : MethodName) ∈ hs_tbl := List.mem_filter.mpr ⟨List.mem_of_getElem? (i := 757) (by decide +kernel), by decide +kernel⟩
theorem mt_612 : Cond.selects "UnitTurns" ({ cls := "UnitTurns", name := "type", desc := "(I)I" } : MethodName) ({ cls := "UnitTurns", name := "type", desc := "(I)I" } : MethodName) ∈ hs_tbl := List.mem_filter.mpr ⟨List.mem_of_getElem? (i := 758) (by decide +kernel), by decide +kernel⟩
theorem mv_L_78 : hs_MV RL 78 yX8_type cX8_type 2 (some .int) 1 8 := ⟨⟨mt_609, mt_132, mt_610, ⟨by decide +kernel, by decide +kernel, by decide +kernel⟩, by decide⟩, mt_611, mt_612, ⟨_, rfl, rfl⟩⟩
theorem mt_613 : Cond.code ({ cls := "UnitTurnsModel", name := "type", desc := "(I)I" } : MethodName) prog_11_method_62_code (2 : Nat) (Option.some FieldType.int) ∈ hs_tbl := List.mem_filter.mpr ⟨List.mem_of_getElem? (i := 1158) (by decide +kernel), by decide +kernel⟩
theorem mt_614 : Cond.methodLink "UnitTurnsLaw" (81 : Nat) ({ cls := "UnitTurnsModel", name := "type", desc := "(I)I" } : MethodName) ∈ hs_tbl := List.mem_filter.mpr ⟨List.mem_of_getElem? (i := 1155) (by decide +kernel), by decide +kernel⟩
theorem mt_615 : Cond.instanceMethod ({ cls := "UnitTurnsModel", name := "type", desc := "(I)I" } : MethodName) ∈ hs_tbl := List.mem_filter.mpr ⟨List.mem_of_getElem? (i := 1156) (by decide +kernel), by decide +kernel⟩
theorem mt_616 : Cond.selects "UnitTurnsModel" ({ cls := "UnitTurnsModel", name := "type", desc := "(I)I" } : MethodName) ({ cls := "UnitTurnsModel", name := "type", desc := "(I)I" } : MethodName) ∈ hs_tbl := List.mem_filter.mpr ⟨List.mem_of_getElem? (i := 1157) (by decide +kernel), by decide +kernel⟩
theorem mv_L_81 : hs_MV RL 81 yX9_type cX9_type 2 (some .int) 1 9 := ⟨⟨mt_613, mt_493, mt_614, ⟨by decide +kernel, by decide +kernel, by decide +kernel⟩, by decide⟩, mt_615, mt_616, ⟨_, rfl, rfl⟩⟩
theorem mt_617 : Cond.code ({ cls := "UnitTurns", name := "clear", desc := "()I" } : MethodName) prog_1_method_18_code (1 : Nat) (Option.some FieldType.int) ∈ hs_tbl := List.mem_filter.mpr ⟨List.mem_of_getElem? (i := 767) (by decide +kernel), by decide +kernel⟩
theorem mt_618 : Cond.methodLink "UnitTurnsLaw" (82 : Nat) ({ cls := "UnitTurns", name := "clear", desc := "()I" } : MethodName) ∈ hs_tbl := List.mem_filter.mpr ⟨List.mem_of_getElem? (i := 764) (by decide +kernel), by decide +kernel⟩
theorem mt_619 : Cond.instanceMethod ({ cls := "UnitTurns", name := "clear", desc := "()I" } : MethodName) ∈ hs_tbl := List.mem_filter.mpr ⟨List.mem_of_getElem? (i := 765) (by decide +kernel), by decide +kernel⟩
theorem mt_620 : Cond.selects "UnitTurns" ({ cls := "UnitTurns", name := "clear", desc := "()I" } : MethodName) ({ cls := "UnitTurns", name := "clear", desc := "()I" } : MethodName) ∈ hs_tbl := List.mem_filter.mpr ⟨List.mem_of_getElem? (i := 766) (by decide +kernel), by decide +kernel⟩
theorem mv_L_82 : hs_MV RL 82 yX8_clear cX8_clear 1 (some .int) 0 8 := ⟨⟨mt_617, mt_132, mt_618, ⟨by decide +kernel, by decide +kernel, by decide +kernel⟩, by decide⟩, mt_619, mt_620, ⟨_, rfl, rfl⟩⟩
theorem mt_621 : Cond.code ({ cls := "UnitTurnsModel", name := "clear", desc := "()I" } : MethodName) prog_11_method_63_code (2 : Nat) (Option.some FieldType.int) ∈ hs_tbl := List.mem_filter.mpr ⟨List.mem_of_getElem? (i := 1162) (by decide +kernel), by decide +kernel⟩
theorem mt_622 : Cond.methodLink "UnitTurnsLaw" (85 : Nat) ({ cls := "UnitTurnsModel", name := "clear", desc := "()I" } : MethodName) ∈ hs_tbl := List.mem_filter.mpr ⟨List.mem_of_getElem? (i := 1159) (by decide +kernel), by decide +kernel⟩
theorem mt_623 : Cond.instanceMethod ({ cls := "UnitTurnsModel", name := "clear", desc := "()I" } : MethodName) ∈ hs_tbl := List.mem_filter.mpr ⟨List.mem_of_getElem? (i := 1160) (by decide +kernel), by decide +kernel⟩
theorem mt_624 : Cond.selects "UnitTurnsModel" ({ cls := "UnitTurnsModel", name := "clear", desc := "()I" } : MethodName) ({ cls := "UnitTurnsModel", name := "clear", desc := "()I" } : MethodName) ∈ hs_tbl := List.mem_filter.mpr ⟨List.mem_of_getElem? (i := 1161) (by decide +kernel), by decide +kernel⟩
theorem mv_L_85 : hs_MV RL 85 yX9_clear cX9_clear 2 (some .int) 0 9 := ⟨⟨mt_621, mt_493, mt_622, ⟨by decide +kernel, by decide +kernel, by decide +kernel⟩, by decide⟩, mt_623, mt_624, ⟨_, rfl, rfl⟩⟩
theorem mt_625 : Cond.code ({ cls := "UnitTurns", name := "reads", desc := "()I" } : MethodName) prog_1_method_19_code (3 : Nat) (Option.some FieldType.int) ∈ hs_tbl := List.mem_filter.mpr ⟨List.mem_of_getElem? (i := 775) (by decide +kernel), by decide +kernel⟩
theorem mt_626 : Cond.methodLink "UnitTurnsLaw" (86 : Nat) ({ cls := "UnitTurns", name := "reads", desc := "()I" } : MethodName) ∈ hs_tbl := List.mem_filter.mpr ⟨List.mem_of_getElem? (i := 772) (by decide +kernel), by decide +kernel⟩
theorem mt_627 : Cond.instanceMethod ({ cls := "UnitTurns", name := "reads", desc := "()I" } : MethodName) ∈ hs_tbl := List.mem_filter.mpr ⟨List.mem_of_getElem? (i := 773) (by decide +kernel), by decide +kernel⟩
theorem mt_628 : Cond.selects "UnitTurns" ({ cls := "UnitTurns", name := "reads", desc := "()I" } : MethodName) ({ cls := "UnitTurns", name := "reads", desc := "()I" } : MethodName) ∈ hs_tbl := List.mem_filter.mpr ⟨List.mem_of_getElem? (i := 774) (by decide +kernel), by decide +kernel⟩
theorem mv_L_86 : hs_MV RL 86 yX8_reads cX8_reads 3 (some .int) 0 8 := ⟨⟨mt_625, mt_132, mt_626, ⟨by decide +kernel, by decide +kernel, by decide +kernel⟩, by decide⟩, mt_627, mt_628, ⟨_, rfl, rfl⟩⟩
theorem mt_629 : Cond.code ({ cls := "UnitTurnsModel", name := "reads", desc := "()I" } : MethodName) prog_11_method_71_code (3 : Nat) (Option.some FieldType.int) ∈ hs_tbl := List.mem_filter.mpr ⟨List.mem_of_getElem? (i := 1166) (by decide +kernel), by decide +kernel⟩
theorem mt_630 : Cond.methodLink "UnitTurnsLaw" (89 : Nat) ({ cls := "UnitTurnsModel", name := "reads", desc := "()I" } : MethodName) ∈ hs_tbl := List.mem_filter.mpr ⟨List.mem_of_getElem? (i := 1163) (by decide +kernel), by decide +kernel⟩
theorem mt_631 : Cond.instanceMethod ({ cls := "UnitTurnsModel", name := "reads", desc := "()I" } : MethodName) ∈ hs_tbl := List.mem_filter.mpr ⟨List.mem_of_getElem? (i := 1164) (by decide +kernel), by decide +kernel⟩
theorem mt_632 : Cond.selects "UnitTurnsModel" ({ cls := "UnitTurnsModel", name := "reads", desc := "()I" } : MethodName) ({ cls := "UnitTurnsModel", name := "reads", desc := "()I" } : MethodName) ∈ hs_tbl := List.mem_filter.mpr ⟨List.mem_of_getElem? (i := 1165) (by decide +kernel), by decide +kernel⟩
theorem mv_L_89 : hs_MV RL 89 yX9_reads cX9_reads 3 (some .int) 0 9 := ⟨⟨mt_629, mt_493, mt_630, ⟨by decide +kernel, by decide +kernel, by decide +kernel⟩, by decide⟩, mt_631, mt_632, ⟨_, rfl, rfl⟩⟩
theorem mt_633 : Cond.code ({ cls := "UnitTurns", name := "back", desc := "()I" } : MethodName) prog_1_method_20_code (1 : Nat) (Option.some FieldType.int) ∈ hs_tbl := List.mem_filter.mpr ⟨List.mem_of_getElem? (i := 815) (by decide +kernel), by decide +kernel⟩
theorem mt_634 : Cond.methodLink "UnitTurnsLaw" (90 : Nat) ({ cls := "UnitTurns", name := "back", desc := "()I" } : MethodName) ∈ hs_tbl := List.mem_filter.mpr ⟨List.mem_of_getElem? (i := 812) (by decide +kernel), by decide +kernel⟩
theorem mt_635 : Cond.instanceMethod ({ cls := "UnitTurns", name := "back", desc := "()I" } : MethodName) ∈ hs_tbl := List.mem_filter.mpr ⟨List.mem_of_getElem? (i := 813) (by decide +kernel), by decide +kernel⟩
theorem mt_636 : Cond.selects "UnitTurns" ({ cls := "UnitTurns", name := "back", desc := "()I" } : MethodName) ({ cls := "UnitTurns", name := "back", desc := "()I" } : MethodName) ∈ hs_tbl := List.mem_filter.mpr ⟨List.mem_of_getElem? (i := 814) (by decide +kernel), by decide +kernel⟩
theorem mv_L_90 : hs_MV RL 90 yX8_back cX8_back 1 (some .int) 0 8 := ⟨⟨mt_633, mt_132, mt_634, ⟨by decide +kernel, by decide +kernel, by decide +kernel⟩, by decide⟩, mt_635, mt_636, ⟨_, rfl, rfl⟩⟩
theorem mt_637 : Cond.code ({ cls := "UnitTurnsModel", name := "back", desc := "()I" } : MethodName) prog_11_method_8_code (2 : Nat) (Option.some FieldType.int) ∈ hs_tbl := List.mem_filter.mpr ⟨List.mem_of_getElem? (i := 920) (by decide +kernel), by decide +kernel⟩
theorem mt_638 : Cond.methodLink "UnitTurnsLaw" (93 : Nat) ({ cls := "UnitTurnsModel", name := "back", desc := "()I" } : MethodName) ∈ hs_tbl := List.mem_filter.mpr ⟨List.mem_of_getElem? (i := 917) (by decide +kernel), by decide +kernel⟩
theorem mt_639 : Cond.instanceMethod ({ cls := "UnitTurnsModel", name := "back", desc := "()I" } : MethodName) ∈ hs_tbl := List.mem_filter.mpr ⟨List.mem_of_getElem? (i := 918) (by decide +kernel), by decide +kernel⟩
theorem mt_640 : Cond.selects "UnitTurnsModel" ({ cls := "UnitTurnsModel", name := "back", desc := "()I" } : MethodName) ({ cls := "UnitTurnsModel", name := "back", desc := "()I" } : MethodName) ∈ hs_tbl := List.mem_filter.mpr ⟨List.mem_of_getElem? (i := 919) (by decide +kernel), by decide +kernel⟩
theorem mv_L_93 : hs_MV RL 93 yX9_back cX9_back 2 (some .int) 0 9 := ⟨⟨mt_637, mt_493, mt_638, ⟨by decide +kernel, by decide +kernel, by decide +kernel⟩, by decide⟩, mt_639, mt_640, ⟨_, rfl, rfl⟩⟩
theorem mt_641 : Cond.code ({ cls := "UnitTurns", name := "told", desc := "(I)I" } : MethodName) prog_1_method_21_code (2 : Nat) (Option.some FieldType.int) ∈ hs_tbl := List.mem_filter.mpr ⟨List.mem_of_getElem? (i := 823) (by decide +kernel), by decide +kernel⟩
theorem mt_642 : Cond.methodLink "UnitTurnsLaw" (94 : Nat) ({ cls := "UnitTurns", name := "told", desc := "(I)I" } : MethodName) ∈ hs_tbl := List.mem_filter.mpr ⟨List.mem_of_getElem? (i := 820) (by decide +kernel), by decide +kernel⟩
theorem mt_643 : Cond.instanceMethod ({ cls := "UnitTurns", name := "told", desc := "(I)I" } : MethodName) ∈ hs_tbl := List.mem_filter.mpr ⟨List.mem_of_getElem? (i := 821) (by decide +kernel), by decide +kernel⟩
theorem mt_644 : Cond.selects "UnitTurns" ({ cls := "UnitTurns", name := "told", desc := "(I)I" } : MethodName) ({ cls := "UnitTurns", name := "told", desc := "(I)I" } : MethodName) ∈ hs_tbl := List.mem_filter.mpr ⟨List.mem_of_getElem? (i := 822) (by decide +kernel), by decide +kernel⟩
theorem mv_L_94 : hs_MV RL 94 yX8_told cX8_told 2 (some .int) 1 8 := ⟨⟨mt_641, mt_132, mt_642, ⟨by decide +kernel, by decide +kernel, by decide +kernel⟩, by decide⟩, mt_643, mt_644, ⟨_, rfl, rfl⟩⟩
theorem mt_645 : Cond.code ({ cls := "UnitTurnsModel", name := "told", desc := "(I)I" } : MethodName) prog_11_method_73_code (2 : Nat) (Option.some FieldType.int) ∈ hs_tbl := List.mem_filter.mpr ⟨List.mem_of_getElem? (i := 1197) (by decide +kernel), by decide +kernel⟩
theorem mt_646 : Cond.methodLink "UnitTurnsLaw" (97 : Nat) ({ cls := "UnitTurnsModel", name := "told", desc := "(I)I" } : MethodName) ∈ hs_tbl := List.mem_filter.mpr ⟨List.mem_of_getElem? (i := 1194) (by decide +kernel), by decide +kernel⟩
theorem mt_647 : Cond.instanceMethod ({ cls := "UnitTurnsModel", name := "told", desc := "(I)I" } : MethodName) ∈ hs_tbl := List.mem_filter.mpr ⟨List.mem_of_getElem? (i := 1195) (by decide +kernel), by decide +kernel⟩
theorem mt_648 : Cond.selects "UnitTurnsModel" ({ cls := "UnitTurnsModel", name := "told", desc := "(I)I" } : MethodName) ({ cls := "UnitTurnsModel", name := "told", desc := "(I)I" } : MethodName) ∈ hs_tbl := List.mem_filter.mpr ⟨List.mem_of_getElem? (i := 1196) (by decide +kernel), by decide +kernel⟩
theorem mv_L_97 : hs_MV RL 97 yX9_told cX9_told 2 (some .int) 1 9 := ⟨⟨mt_645, mt_493, mt_646, ⟨by decide +kernel, by decide +kernel, by decide +kernel⟩, by decide⟩, mt_647, mt_648, ⟨_, rfl, rfl⟩⟩
theorem mt_649 : Cond.code ({ cls := "UnitTurns", name := "digest", desc := "()J" } : MethodName) prog_1_method_22_code (5 : Nat) (Option.some FieldType.long) ∈ hs_tbl := List.mem_filter.mpr ⟨List.mem_of_getElem? (i := 831) (by decide +kernel), by decide +kernel⟩
theorem mt_650 : Cond.methodLink "UnitTurnsLaw" (98 : Nat) ({ cls := "UnitTurns", name := "digest", desc := "()J" } : MethodName) ∈ hs_tbl := List.mem_filter.mpr ⟨List.mem_of_getElem? (i := 828) (by decide +kernel), by decide +kernel⟩
theorem mt_651 : Cond.instanceMethod ({ cls := "UnitTurns", name := "digest", desc := "()J" } : MethodName) ∈ hs_tbl := List.mem_filter.mpr ⟨List.mem_of_getElem? (i := 829) (by decide +kernel), by decide +kernel⟩
theorem mt_652 : Cond.selects "UnitTurns" ({ cls := "UnitTurns", name := "digest", desc := "()J" } : MethodName) ({ cls := "UnitTurns", name := "digest", desc := "()J" } : MethodName) ∈ hs_tbl := List.mem_filter.mpr ⟨List.mem_of_getElem? (i := 830) (by decide +kernel), by decide +kernel⟩
theorem mv_L_98 : hs_MV RL 98 yX8_digest cX8_digest 5 (some .long) 0 8 := ⟨⟨mt_649, mt_132, mt_650, ⟨by decide +kernel, by decide +kernel, by decide +kernel⟩, by decide⟩, mt_651, mt_652, ⟨_, rfl, rfl⟩⟩
theorem mt_653 : Cond.code ({ cls := "UnitTurnsModel", name := "digest", desc := "()J" } : MethodName) prog_11_method_75_code (2 : Nat) (Option.some FieldType.long) ∈ hs_tbl := List.mem_filter.mpr ⟨List.mem_of_getElem? (i := 1205) (by decide +kernel), by decide +kernel⟩
theorem mt_654 : Cond.methodLink "UnitTurnsLaw" (102 : Nat) ({ cls := "UnitTurnsModel", name := "digest", desc := "()J" } : MethodName) ∈ hs_tbl := List.mem_filter.mpr ⟨List.mem_of_getElem? (i := 1202) (by decide +kernel), by decide +kernel⟩
theorem mt_655 : Cond.instanceMethod ({ cls := "UnitTurnsModel", name := "digest", desc := "()J" } : MethodName) ∈ hs_tbl := List.mem_filter.mpr ⟨List.mem_of_getElem? (i := 1203) (by decide +kernel), by decide +kernel⟩
theorem mt_656 : Cond.selects "UnitTurnsModel" ({ cls := "UnitTurnsModel", name := "digest", desc := "()J" } : MethodName) ({ cls := "UnitTurnsModel", name := "digest", desc := "()J" } : MethodName) ∈ hs_tbl := List.mem_filter.mpr ⟨List.mem_of_getElem? (i := 1204) (by decide +kernel), by decide +kernel⟩
theorem mv_L_102 : hs_MV RL 102 yX9_digest cX9_digest 2 (some .long) 0 9 := ⟨⟨mt_653, mt_493, mt_654, ⟨by decide +kernel, by decide +kernel, by decide +kernel⟩, by decide⟩, mt_655, mt_656, ⟨_, rfl, rfl⟩⟩
theorem mt_657 : Cond.code ({ cls := "UnitTurnsModel", name := "refuses", desc := "(I)I" } : MethodName) prog_11_method_4_code (2 : Nat) (Option.some FieldType.int) ∈ hs_tbl := List.mem_filter.mpr ⟨List.mem_of_getElem? (i := 924) (by decide +kernel), by decide +kernel⟩
theorem mt_658 : Cond.methodLink "UnitTurnsModel" (63 : Nat) ({ cls := "UnitTurnsModel", name := "refuses", desc := "(I)I" } : MethodName) ∈ hs_tbl := List.mem_filter.mpr ⟨List.mem_of_getElem? (i := 921) (by decide +kernel), by decide +kernel⟩
theorem mt_659 : Cond.instanceMethod ({ cls := "UnitTurnsModel", name := "refuses", desc := "(I)I" } : MethodName) ∈ hs_tbl := List.mem_filter.mpr ⟨List.mem_of_getElem? (i := 923) (by decide +kernel), by decide +kernel⟩
theorem mt_660 : Cond.selects "UnitTurnsModel" ⟨"UnitTurnsModel", "refuses", "(I)I"⟩ ⟨"UnitTurnsModel", "refuses", "(I)I"⟩ ∈ hs_tbl := List.mem_filter.mpr ⟨List.mem_of_getElem? (i := 41) (by decide +kernel), by decide +kernel⟩
theorem mv_X9_63 : hs_MV RX9 63 yX9_refuses cX9_refuses 2 (some .int) 1 9 := ⟨⟨mt_657, mt_493, mt_658, ⟨by decide +kernel, by decide +kernel, by decide +kernel⟩, by decide⟩, mt_659, mt_660, ⟨_, rfl, rfl⟩⟩
theorem mt_661 : Cond.code ({ cls := "UnitTurnsModel", name := "push", desc := "()V" } : MethodName) prog_11_method_6_code (2 : Nat) (Option.none : Option FieldType) ∈ hs_tbl := List.mem_filter.mpr ⟨List.mem_of_getElem? (i := 947) (by decide +kernel), by decide +kernel⟩
theorem mt_662 : Cond.methodLink "UnitTurnsModel" (67 : Nat) ({ cls := "UnitTurnsModel", name := "push", desc := "()V" } : MethodName) ∈ hs_tbl := List.mem_filter.mpr ⟨List.mem_of_getElem? (i := 944) (by decide +kernel), by decide +kernel⟩
theorem mt_663 : Cond.instanceMethod ({ cls := "UnitTurnsModel", name := "push", desc := "()V" } : MethodName) ∈ hs_tbl := List.mem_filter.mpr ⟨List.mem_of_getElem? (i := 946) (by decide +kernel), by decide +kernel⟩
theorem mt_664 : Cond.selects "UnitTurnsModel" ⟨"UnitTurnsModel", "push", "()V"⟩ ⟨"UnitTurnsModel", "push", "()V"⟩ ∈ hs_tbl := List.mem_filter.mpr ⟨List.mem_of_getElem? (i := 45) (by decide +kernel), by decide +kernel⟩
theorem mv_X9_67 : hs_MV RX9 67 yX9_push cX9_push 2 none 0 9 := ⟨⟨mt_661, mt_493, mt_662, ⟨by decide +kernel, by decide +kernel, by decide +kernel⟩, by decide⟩, mt_663, mt_664, ⟨_, rfl, rfl⟩⟩
theorem mt_665 : Cond.code ({ cls := "UnitTurnsModel", name := "in", desc := "(III)Z" } : MethodName) prog_11_method_2_code (3 : Nat) (Option.some FieldType.boolean) ∈ hs_tbl := List.mem_filter.mpr ⟨List.mem_of_getElem? (i := 939) (by decide +kernel), by decide +kernel⟩
theorem mt_666 : Cond.methodLink "UnitTurnsModel" (74 : Nat) ({ cls := "UnitTurnsModel", name := "in", desc := "(III)Z" } : MethodName) ∈ hs_tbl := List.mem_filter.mpr ⟨List.mem_of_getElem? (i := 937) (by decide +kernel), by decide +kernel⟩
theorem mt_667 : Cond.static ({ cls := "UnitTurnsModel", name := "in", desc := "(III)Z" } : MethodName) ∈ hs_tbl := List.mem_filter.mpr ⟨List.mem_of_getElem? (i := 938) (by decide +kernel), by decide +kernel⟩
theorem ms_X9_74 : hs_MS RX9 74 yX9_in cX9_in 3 (some .boolean) 3 := ⟨⟨mt_665, mt_493, mt_666, ⟨by decide +kernel, by decide +kernel, by decide +kernel⟩, by decide⟩, mt_667⟩
theorem mt_668 : Cond.code ({ cls := "UnitTurnsModel", name := "ofKind", desc := "(II)I" } : MethodName) prog_11_method_11_code (3 : Nat) (Option.some FieldType.int) ∈ hs_tbl := List.mem_filter.mpr ⟨List.mem_of_getElem? (i := 1022) (by decide +kernel), by decide +kernel⟩
theorem mt_669 : Cond.methodLink "UnitTurnsModel" (78 : Nat) ({ cls := "UnitTurnsModel", name := "ofKind", desc := "(II)I" } : MethodName) ∈ hs_tbl := List.mem_filter.mpr ⟨List.mem_of_getElem? (i := 1019) (by decide +kernel), by decide +kernel⟩
theorem mt_670 : Cond.instanceMethod ({ cls := "UnitTurnsModel", name := "ofKind", desc := "(II)I" } : MethodName) ∈ hs_tbl := List.mem_filter.mpr ⟨List.mem_of_getElem? (i := 1021) (by decide +kernel), by decide +kernel⟩
theorem mt_671 : Cond.selects "UnitTurnsModel" ⟨"UnitTurnsModel", "ofKind", "(II)I"⟩ ⟨"UnitTurnsModel", "ofKind", "(II)I"⟩ ∈ hs_tbl := List.mem_filter.mpr ⟨List.mem_of_getElem? (i := 58) (by decide +kernel), by decide +kernel⟩
theorem mv_X9_78 : hs_MV RX9 78 yX9_ofKind cX9_ofKind 3 (some .int) 2 9 := ⟨⟨mt_668, mt_493, mt_669, ⟨by decide +kernel, by decide +kernel, by decide +kernel⟩, by decide⟩, mt_670, mt_671, ⟨_, rfl, rfl⟩⟩
theorem mt_672 : Cond.code ({ cls := "UnitTurnsModel", name := "ofOne", desc := "(II)I" } : MethodName) prog_11_method_12_code (3 : Nat) (Option.some FieldType.int) ∈ hs_tbl := List.mem_filter.mpr ⟨List.mem_of_getElem? (i := 1066) (by decide +kernel), by decide +kernel⟩
theorem mt_673 : Cond.methodLink "UnitTurnsModel" (82 : Nat) ({ cls := "UnitTurnsModel", name := "ofOne", desc := "(II)I" } : MethodName) ∈ hs_tbl := List.mem_filter.mpr ⟨List.mem_of_getElem? (i := 1063) (by decide +kernel), by decide +kernel⟩
theorem mt_674 : Cond.instanceMethod ({ cls := "UnitTurnsModel", name := "ofOne", desc := "(II)I" } : MethodName) ∈ hs_tbl := List.mem_filter.mpr ⟨List.mem_of_getElem? (i := 1065) (by decide +kernel), by decide +kernel⟩
theorem mt_675 : Cond.selects "UnitTurnsModel" ⟨"UnitTurnsModel", "ofOne", "(II)I"⟩ ⟨"UnitTurnsModel", "ofOne", "(II)I"⟩ ∈ hs_tbl := List.mem_filter.mpr ⟨List.mem_of_getElem? (i := 65) (by decide +kernel), by decide +kernel⟩
theorem mv_X9_82 : hs_MV RX9 82 yX9_ofOne cX9_ofOne 3 (some .int) 2 9 := ⟨⟨mt_672, mt_493, mt_673, ⟨by decide +kernel, by decide +kernel, by decide +kernel⟩, by decide⟩, mt_674, mt_675, ⟨_, rfl, rfl⟩⟩
theorem mt_676 : Cond.code ({ cls := "UnitTurnsModel", name := "needOf", desc := "(II)I" } : MethodName) prog_11_method_14_code (3 : Nat) (Option.some FieldType.int) ∈ hs_tbl := List.mem_filter.mpr ⟨List.mem_of_getElem? (i := 990) (by decide +kernel), by decide +kernel⟩
theorem mt_677 : Cond.methodLink "UnitTurnsModel" (85 : Nat) ({ cls := "UnitTurnsModel", name := "needOf", desc := "(II)I" } : MethodName) ∈ hs_tbl := List.mem_filter.mpr ⟨List.mem_of_getElem? (i := 987) (by decide +kernel), by decide +kernel⟩
theorem mt_678 : Cond.instanceMethod ({ cls := "UnitTurnsModel", name := "needOf", desc := "(II)I" } : MethodName) ∈ hs_tbl := List.mem_filter.mpr ⟨List.mem_of_getElem? (i := 989) (by decide +kernel), by decide +kernel⟩
theorem mt_679 : Cond.selects "UnitTurnsModel" ⟨"UnitTurnsModel", "needOf", "(II)I"⟩ ⟨"UnitTurnsModel", "needOf", "(II)I"⟩ ∈ hs_tbl := List.mem_filter.mpr ⟨List.mem_of_getElem? (i := 52) (by decide +kernel), by decide +kernel⟩
theorem mv_X9_85 : hs_MV RX9 85 yX9_needOf cX9_needOf 3 (some .int) 2 9 := ⟨⟨mt_676, mt_493, mt_677, ⟨by decide +kernel, by decide +kernel, by decide +kernel⟩, by decide⟩, mt_678, mt_679, ⟨_, rfl, rfl⟩⟩
theorem mt_680 : Cond.code ({ cls := "UnitTurnsModel", name := "isKind", desc := "(I)Z" } : MethodName) prog_11_method_9_code (2 : Nat) (Option.some FieldType.boolean) ∈ hs_tbl := List.mem_filter.mpr ⟨List.mem_of_getElem? (i := 967) (by decide +kernel), by decide +kernel⟩
theorem mt_681 : Cond.methodLink "UnitTurnsModel" (88 : Nat) ({ cls := "UnitTurnsModel", name := "isKind", desc := "(I)Z" } : MethodName) ∈ hs_tbl := List.mem_filter.mpr ⟨List.mem_of_getElem? (i := 964) (by decide +kernel), by decide +kernel⟩
theorem mt_682 : Cond.instanceMethod ({ cls := "UnitTurnsModel", name := "isKind", desc := "(I)Z" } : MethodName) ∈ hs_tbl := List.mem_filter.mpr ⟨List.mem_of_getElem? (i := 966) (by decide +kernel), by decide +kernel⟩
theorem mt_683 : Cond.selects "UnitTurnsModel" ⟨"UnitTurnsModel", "isKind", "(I)Z"⟩ ⟨"UnitTurnsModel", "isKind", "(I)Z"⟩ ∈ hs_tbl := List.mem_filter.mpr ⟨List.mem_of_getElem? (i := 48) (by decide +kernel), by decide +kernel⟩
theorem mv_X9_88 : hs_MV RX9 88 yX9_isKind cX9_isKind 2 (some .boolean) 1 9 := ⟨⟨mt_680, mt_493, mt_681, ⟨by decide +kernel, by decide +kernel, by decide +kernel⟩, by decide⟩, mt_682, mt_683, ⟨_, rfl, rfl⟩⟩
theorem mt_684 : Cond.code ({ cls := "UnitTurnsModel", name := "has", desc := "(II)Z" } : MethodName) prog_11_method_3_code (2 : Nat) (Option.some FieldType.boolean) ∈ hs_tbl := List.mem_filter.mpr ⟨List.mem_of_getElem? (i := 986) (by decide +kernel), by decide +kernel⟩
theorem mt_685 : Cond.methodLink "UnitTurnsModel" (92 : Nat) ({ cls := "UnitTurnsModel", name := "has", desc := "(II)Z" } : MethodName) ∈ hs_tbl := List.mem_filter.mpr ⟨List.mem_of_getElem? (i := 984) (by decide +kernel), by decide +kernel⟩
theorem mt_686 : Cond.static ({ cls := "UnitTurnsModel", name := "has", desc := "(II)Z" } : MethodName) ∈ hs_tbl := List.mem_filter.mpr ⟨List.mem_of_getElem? (i := 985) (by decide +kernel), by decide +kernel⟩
theorem ms_X9_92 : hs_MS RX9 92 yX9_has cX9_has 2 (some .boolean) 2 := ⟨⟨mt_684, mt_493, mt_685, ⟨by decide +kernel, by decide +kernel, by decide +kernel⟩, by decide⟩, mt_686⟩
theorem mt_687 : Cond.code ({ cls := "UnitTurnsModel", name := "isOne", desc := "(I)Z" } : MethodName) prog_11_method_10_code (2 : Nat) (Option.some FieldType.boolean) ∈ hs_tbl := List.mem_filter.mpr ⟨List.mem_of_getElem? (i := 979) (by decide +kernel), by decide +kernel⟩
theorem mt_688 : Cond.methodLink "UnitTurnsModel" (96 : Nat) ({ cls := "UnitTurnsModel", name := "isOne", desc := "(I)Z" } : MethodName) ∈ hs_tbl := List.mem_filter.mpr ⟨List.mem_of_getElem? (i := 976) (by decide +kernel), by decide +kernel⟩
theorem mt_689 : Cond.instanceMethod ({ cls := "UnitTurnsModel", name := "isOne", desc := "(I)Z" } : MethodName) ∈ hs_tbl := List.mem_filter.mpr ⟨List.mem_of_getElem? (i := 978) (by decide +kernel), by decide +kernel⟩
theorem mt_690 : Cond.selects "UnitTurnsModel" ⟨"UnitTurnsModel", "isOne", "(I)Z"⟩ ⟨"UnitTurnsModel", "isOne", "(I)Z"⟩ ∈ hs_tbl := List.mem_filter.mpr ⟨List.mem_of_getElem? (i := 50) (by decide +kernel), by decide +kernel⟩
theorem mv_X9_96 : hs_MV RX9 96 yX9_isOne cX9_isOne 2 (some .boolean) 1 9 := ⟨⟨mt_687, mt_493, mt_688, ⟨by decide +kernel, by decide +kernel, by decide +kernel⟩, by decide⟩, mt_689, mt_690, ⟨_, rfl, rfl⟩⟩
theorem mt_691 : Cond.code ({ cls := "UnitTurnsModel", name := "leads", desc := "(II)Z" } : MethodName) prog_11_method_19_code (7 : Nat) (Option.some FieldType.boolean) ∈ hs_tbl := List.mem_filter.mpr ⟨List.mem_of_getElem? (i := 983) (by decide +kernel), by decide +kernel⟩
theorem mt_692 : Cond.methodLink "UnitTurnsModel" (99 : Nat) ({ cls := "UnitTurnsModel", name := "leads", desc := "(II)Z" } : MethodName) ∈ hs_tbl := List.mem_filter.mpr ⟨List.mem_of_getElem? (i := 980) (by decide +kernel), by decide +kernel⟩
theorem mt_693 : Cond.instanceMethod ({ cls := "UnitTurnsModel", name := "leads", desc := "(II)Z" } : MethodName) ∈ hs_tbl := List.mem_filter.mpr ⟨List.mem_of_getElem? (i := 982) (by decide +kernel), by decide +kernel⟩
theorem mt_694 : Cond.selects "UnitTurnsModel" ⟨"UnitTurnsModel", "leads", "(II)Z"⟩ ⟨"UnitTurnsModel", "leads", "(II)Z"⟩ ∈ hs_tbl := List.mem_filter.mpr ⟨List.mem_of_getElem? (i := 51) (by decide +kernel), by decide +kernel⟩
theorem mv_X9_99 : hs_MV RX9 99 yX9_leads cX9_leads 7 (some .boolean) 2 9 := ⟨⟨mt_691, mt_493, mt_692, ⟨by decide +kernel, by decide +kernel, by decide +kernel⟩, by decide⟩, mt_693, mt_694, ⟨_, rfl, rfl⟩⟩
theorem mt_695 : Cond.code ({ cls := "UnitTurnsModel", name := "hold", desc := "()V" } : MethodName) prog_11_method_5_code (2 : Nat) (Option.none : Option FieldType) ∈ hs_tbl := List.mem_filter.mpr ⟨List.mem_of_getElem? (i := 932) (by decide +kernel), by decide +kernel⟩
theorem mt_696 : Cond.methodLink "UnitTurnsModel" (102 : Nat) ({ cls := "UnitTurnsModel", name := "hold", desc := "()V" } : MethodName) ∈ hs_tbl := List.mem_filter.mpr ⟨List.mem_of_getElem? (i := 929) (by decide +kernel), by decide +kernel⟩
theorem mt_697 : Cond.instanceMethod ({ cls := "UnitTurnsModel", name := "hold", desc := "()V" } : MethodName) ∈ hs_tbl := List.mem_filter.mpr ⟨List.mem_of_getElem? (i := 931) (by decide +kernel), by decide +kernel⟩
theorem mt_698 : Cond.selects "UnitTurnsModel" ⟨"UnitTurnsModel", "hold", "()V"⟩ ⟨"UnitTurnsModel", "hold", "()V"⟩ ∈ hs_tbl := List.mem_filter.mpr ⟨List.mem_of_getElem? (i := 42) (by decide +kernel), by decide +kernel⟩
theorem mv_X9_102 : hs_MV RX9 102 yX9_hold cX9_hold 2 none 0 9 := ⟨⟨mt_695, mt_493, mt_696, ⟨by decide +kernel, by decide +kernel, by decide +kernel⟩, by decide⟩, mt_697, mt_698, ⟨_, rfl, rfl⟩⟩
theorem mt_699 : Cond.code ({ cls := "UnitTurnsModel", name := "doKind", desc := "(IIII)I" } : MethodName) prog_11_method_16_code (6 : Nat) (Option.some FieldType.int) ∈ hs_tbl := List.mem_filter.mpr ⟨List.mem_of_getElem? (i := 936) (by decide +kernel), by decide +kernel⟩
theorem mt_700 : Cond.methodLink "UnitTurnsModel" (105 : Nat) ({ cls := "UnitTurnsModel", name := "doKind", desc := "(IIII)I" } : MethodName) ∈ hs_tbl := List.mem_filter.mpr ⟨List.mem_of_getElem? (i := 933) (by decide +kernel), by decide +kernel⟩
theorem mt_701 : Cond.instanceMethod ({ cls := "UnitTurnsModel", name := "doKind", desc := "(IIII)I" } : MethodName) ∈ hs_tbl := List.mem_filter.mpr ⟨List.mem_of_getElem? (i := 935) (by decide +kernel), by decide +kernel⟩
theorem mt_702 : Cond.selects "UnitTurnsModel" ⟨"UnitTurnsModel", "doKind", "(IIII)I"⟩ ⟨"UnitTurnsModel", "doKind", "(IIII)I"⟩ ∈ hs_tbl := List.mem_filter.mpr ⟨List.mem_of_getElem? (i := 43) (by decide +kernel), by decide +kernel⟩
theorem mv_X9_105 : hs_MV RX9 105 yX9_doKind cX9_doKind 6 (some .int) 4 9 := ⟨⟨mt_699, mt_493, mt_700, ⟨by decide +kernel, by decide +kernel, by decide +kernel⟩, by decide⟩, mt_701, mt_702, ⟨_, rfl, rfl⟩⟩
theorem mt_703 : Cond.code ({ cls := "UnitTurnsModel", name := "ends", desc := "(I)I" } : MethodName) prog_11_method_7_code (2 : Nat) (Option.some FieldType.int) ∈ hs_tbl := List.mem_filter.mpr ⟨List.mem_of_getElem? (i := 943) (by decide +kernel), by decide +kernel⟩
theorem mt_704 : Cond.methodLink "UnitTurnsModel" (109 : Nat) ({ cls := "UnitTurnsModel", name := "ends", desc := "(I)I" } : MethodName) ∈ hs_tbl := List.mem_filter.mpr ⟨List.mem_of_getElem? (i := 940) (by decide +kernel), by decide +kernel⟩
theorem mt_705 : Cond.instanceMethod ({ cls := "UnitTurnsModel", name := "ends", desc := "(I)I" } : MethodName) ∈ hs_tbl := List.mem_filter.mpr ⟨List.mem_of_getElem? (i := 942) (by decide +kernel), by decide +kernel⟩
theorem mt_706 : Cond.selects "UnitTurnsModel" ⟨"UnitTurnsModel", "ends", "(I)I"⟩ ⟨"UnitTurnsModel", "ends", "(I)I"⟩ ∈ hs_tbl := List.mem_filter.mpr ⟨List.mem_of_getElem? (i := 44) (by decide +kernel), by decide +kernel⟩
theorem mv_X9_109 : hs_MV RX9 109 yX9_ends cX9_ends 2 (some .int) 1 9 := ⟨⟨mt_703, mt_493, mt_704, ⟨by decide +kernel, by decide +kernel, by decide +kernel⟩, by decide⟩, mt_705, mt_706, ⟨_, rfl, rfl⟩⟩
theorem mt_707 : Cond.code ({ cls := "UnitTurnsModel", name := "doSets", desc := "(II)I" } : MethodName) prog_11_method_17_code (4 : Nat) (Option.some FieldType.int) ∈ hs_tbl := List.mem_filter.mpr ⟨List.mem_of_getElem? (i := 955) (by decide +kernel), by decide +kernel⟩
theorem mt_708 : Cond.methodLink "UnitTurnsModel" (112 : Nat) ({ cls := "UnitTurnsModel", name := "doSets", desc := "(II)I" } : MethodName) ∈ hs_tbl := List.mem_filter.mpr ⟨List.mem_of_getElem? (i := 952) (by decide +kernel), by decide +kernel⟩
theorem mt_709 : Cond.instanceMethod ({ cls := "UnitTurnsModel", name := "doSets", desc := "(II)I" } : MethodName) ∈ hs_tbl := List.mem_filter.mpr ⟨List.mem_of_getElem? (i := 954) (by decide +kernel), by decide +kernel⟩
theorem mt_710 : Cond.selects "UnitTurnsModel" ⟨"UnitTurnsModel", "doSets", "(II)I"⟩ ⟨"UnitTurnsModel", "doSets", "(II)I"⟩ ∈ hs_tbl := List.mem_filter.mpr ⟨List.mem_of_getElem? (i := 46) (by decide +kernel), by decide +kernel⟩
theorem mv_X9_112 : hs_MV RX9 112 yX9_doSets cX9_doSets 4 (some .int) 2 9 := ⟨⟨mt_707, mt_493, mt_708, ⟨by decide +kernel, by decide +kernel, by decide +kernel⟩, by decide⟩, mt_709, mt_710, ⟨_, rfl, rfl⟩⟩
theorem mt_711 : Cond.code ({ cls := "UnitTurnsModel", name := "doInstruction", desc := "(I)I" } : MethodName) prog_11_method_18_code (2 : Nat) (Option.some FieldType.int) ∈ hs_tbl := List.mem_filter.mpr ⟨List.mem_of_getElem? (i := 963) (by decide +kernel), by decide +kernel⟩
theorem mt_712 : Cond.methodLink "UnitTurnsModel" (115 : Nat) ({ cls := "UnitTurnsModel", name := "doInstruction", desc := "(I)I" } : MethodName) ∈ hs_tbl := List.mem_filter.mpr ⟨List.mem_of_getElem? (i := 960) (by decide +kernel), by decide +kernel⟩
theorem mt_713 : Cond.instanceMethod ({ cls := "UnitTurnsModel", name := "doInstruction", desc := "(I)I" } : MethodName) ∈ hs_tbl := List.mem_filter.mpr ⟨List.mem_of_getElem? (i := 962) (by decide +kernel), by decide +kernel⟩
theorem mt_714 : Cond.selects "UnitTurnsModel" ⟨"UnitTurnsModel", "doInstruction", "(I)I"⟩ ⟨"UnitTurnsModel", "doInstruction", "(I)I"⟩ ∈ hs_tbl := List.mem_filter.mpr ⟨List.mem_of_getElem? (i := 47) (by decide +kernel), by decide +kernel⟩
theorem mv_X9_115 : hs_MV RX9 115 yX9_doInstruction cX9_doInstruction 2 (some .int) 1 9 := ⟨⟨mt_711, mt_493, mt_712, ⟨by decide +kernel, by decide +kernel, by decide +kernel⟩, by decide⟩, mt_713, mt_714, ⟨_, rfl, rfl⟩⟩
theorem mt_715 : Cond.code ({ cls := "UnitTurnsModel", name := "doNeeds", desc := "(III)I" } : MethodName) prog_11_method_20_code (5 : Nat) (Option.some FieldType.int) ∈ hs_tbl := List.mem_filter.mpr ⟨List.mem_of_getElem? (i := 975) (by decide +kernel), by decide +kernel⟩
theorem mt_716 : Cond.methodLink "UnitTurnsModel" (118 : Nat) ({ cls := "UnitTurnsModel", name := "doNeeds", desc := "(III)I" } : MethodName) ∈ hs_tbl := List.mem_filter.mpr ⟨List.mem_of_getElem? (i := 972) (by decide +kernel), by decide +kernel⟩
theorem mt_717 : Cond.instanceMethod ({ cls := "UnitTurnsModel", name := "doNeeds", desc := "(III)I" } : MethodName) ∈ hs_tbl := List.mem_filter.mpr ⟨List.mem_of_getElem? (i := 974) (by decide +kernel), by decide +kernel⟩
theorem mt_718 : Cond.selects "UnitTurnsModel" ⟨"UnitTurnsModel", "doNeeds", "(III)I"⟩ ⟨"UnitTurnsModel", "doNeeds", "(III)I"⟩ ∈ hs_tbl := List.mem_filter.mpr ⟨List.mem_of_getElem? (i := 49) (by decide +kernel), by decide +kernel⟩
theorem mv_X9_118 : hs_MV RX9 118 yX9_doNeeds cX9_doNeeds 5 (some .int) 3 9 := ⟨⟨mt_715, mt_493, mt_716, ⟨by decide +kernel, by decide +kernel, by decide +kernel⟩, by decide⟩, mt_717, mt_718, ⟨_, rfl, rfl⟩⟩
theorem mt_719 : Cond.code ({ cls := "UnitTurnsModel", name := "doDrops", desc := "(I)I" } : MethodName) prog_11_method_21_code (6 : Nat) (Option.some FieldType.int) ∈ hs_tbl := List.mem_filter.mpr ⟨List.mem_of_getElem? (i := 998) (by decide +kernel), by decide +kernel⟩
theorem mt_720 : Cond.methodLink "UnitTurnsModel" (122 : Nat) ({ cls := "UnitTurnsModel", name := "doDrops", desc := "(I)I" } : MethodName) ∈ hs_tbl := List.mem_filter.mpr ⟨List.mem_of_getElem? (i := 995) (by decide +kernel), by decide +kernel⟩
theorem mt_721 : Cond.instanceMethod ({ cls := "UnitTurnsModel", name := "doDrops", desc := "(I)I" } : MethodName) ∈ hs_tbl := List.mem_filter.mpr ⟨List.mem_of_getElem? (i := 997) (by decide +kernel), by decide +kernel⟩
theorem mt_722 : Cond.selects "UnitTurnsModel" ⟨"UnitTurnsModel", "doDrops", "(I)I"⟩ ⟨"UnitTurnsModel", "doDrops", "(I)I"⟩ ∈ hs_tbl := List.mem_filter.mpr ⟨List.mem_of_getElem? (i := 53) (by decide +kernel), by decide +kernel⟩
theorem mv_X9_122 : hs_MV RX9 122 yX9_doDrops cX9_doDrops 6 (some .int) 1 9 := ⟨⟨mt_719, mt_493, mt_720, ⟨by decide +kernel, by decide +kernel, by decide +kernel⟩, by decide⟩, mt_721, mt_722, ⟨_, rfl, rfl⟩⟩
theorem mt_723 : Cond.code ({ cls := "UnitTurnsModel", name := "holds", desc := "(I)I" } : MethodName) prog_11_method_27_code (2 : Nat) (Option.some FieldType.int) ∈ hs_tbl := List.mem_filter.mpr ⟨List.mem_of_getElem? (i := 1018) (by decide +kernel), by decide +kernel⟩
theorem mt_724 : Cond.methodLink "UnitTurnsModel" (125 : Nat) ({ cls := "UnitTurnsModel", name := "holds", desc := "(I)I" } : MethodName) ∈ hs_tbl := List.mem_filter.mpr ⟨List.mem_of_getElem? (i := 1015) (by decide +kernel), by decide +kernel⟩
theorem mt_725 : Cond.instanceMethod ({ cls := "UnitTurnsModel", name := "holds", desc := "(I)I" } : MethodName) ∈ hs_tbl := List.mem_filter.mpr ⟨List.mem_of_getElem? (i := 1017) (by decide +kernel), by decide +kernel⟩
theorem mt_726 : Cond.selects "UnitTurnsModel" ⟨"UnitTurnsModel", "holds", "(I)I"⟩ ⟨"UnitTurnsModel", "holds", "(I)I"⟩ ∈ hs_tbl := List.mem_filter.mpr ⟨List.mem_of_getElem? (i := 57) (by decide +kernel), by decide +kernel⟩
theorem mv_X9_125 : hs_MV RX9 125 yX9_holds cX9_holds 2 (some .int) 1 9 := ⟨⟨mt_723, mt_493, mt_724, ⟨by decide +kernel, by decide +kernel, by decide +kernel⟩, by decide⟩, mt_725, mt_726, ⟨_, rfl, rfl⟩⟩
theorem mt_727 : Cond.code ({ cls := "UnitTurnsModel", name := "read", desc := "(II)I" } : MethodName) prog_11_method_28_code (4 : Nat) (Option.some FieldType.int) ∈ hs_tbl := List.mem_filter.mpr ⟨List.mem_of_getElem? (i := 1014) (by decide +kernel), by decide +kernel⟩
theorem mt_728 : Cond.methodLink "UnitTurnsModel" (131 : Nat) ({ cls := "UnitTurnsModel", name := "read", desc := "(II)I" } : MethodName) ∈ hs_tbl := List.mem_filter.mpr ⟨List.mem_of_getElem? (i := 1011) (by decide +kernel), by decide +kernel⟩
theorem mt_729 : Cond.instanceMethod ({ cls := "UnitTurnsModel", name := "read", desc := "(II)I" } : MethodName) ∈ hs_tbl := List.mem_filter.mpr ⟨List.mem_of_getElem? (i := 1013) (by decide +kernel), by decide +kernel⟩
theorem mt_730 : Cond.selects "UnitTurnsModel" ⟨"UnitTurnsModel", "read", "(II)I"⟩ ⟨"UnitTurnsModel", "read", "(II)I"⟩ ∈ hs_tbl := List.mem_filter.mpr ⟨List.mem_of_getElem? (i := 56) (by decide +kernel), by decide +kernel⟩
theorem mv_X9_131 : hs_MV RX9 131 yX9_read cX9_read 4 (some .int) 2 9 := ⟨⟨mt_727, mt_493, mt_728, ⟨by decide +kernel, by decide +kernel, by decide +kernel⟩, by decide⟩, mt_729, mt_730, ⟨_, rfl, rfl⟩⟩
theorem mt_731 : Cond.code ({ cls := "UnitTurnsModel", name := "number", desc := "(I)I" } : MethodName) prog_11_method_29_code (3 : Nat) (Option.some FieldType.int) ∈ hs_tbl := List.mem_filter.mpr ⟨List.mem_of_getElem? (i := 1026) (by decide +kernel), by decide +kernel⟩
theorem mt_732 : Cond.methodLink "UnitTurnsModel" (134 : Nat) ({ cls := "UnitTurnsModel", name := "number", desc := "(I)I" } : MethodName) ∈ hs_tbl := List.mem_filter.mpr ⟨List.mem_of_getElem? (i := 1023) (by decide +kernel), by decide +kernel⟩
theorem mt_733 : Cond.instanceMethod ({ cls := "UnitTurnsModel", name := "number", desc := "(I)I" } : MethodName) ∈ hs_tbl := List.mem_filter.mpr ⟨List.mem_of_getElem? (i := 1025) (by decide +kernel), by decide +kernel⟩
theorem mt_734 : Cond.selects "UnitTurnsModel" ⟨"UnitTurnsModel", "number", "(I)I"⟩ ⟨"UnitTurnsModel", "number", "(I)I"⟩ ∈ hs_tbl := List.mem_filter.mpr ⟨List.mem_of_getElem? (i := 59) (by decide +kernel), by decide +kernel⟩
theorem mv_X9_134 : hs_MV RX9 134 yX9_number cX9_number 3 (some .int) 1 9 := ⟨⟨mt_731, mt_493, mt_732, ⟨by decide +kernel, by decide +kernel, by decide +kernel⟩, by decide⟩, mt_733, mt_734, ⟨_, rfl, rfl⟩⟩
theorem mt_735 : Cond.code ({ cls := "UnitTurnsModel", name := "areAlike", desc := "(II)Z" } : MethodName) prog_11_method_31_code (7 : Nat) (Option.some FieldType.boolean) ∈ hs_tbl := List.mem_filter.mpr ⟨List.mem_of_getElem? (i := 1034) (by decide +kernel), by decide +kernel⟩
theorem mt_736 : Cond.methodLink "UnitTurnsModel" (140 : Nat) ({ cls := "UnitTurnsModel", name := "areAlike", desc := "(II)Z" } : MethodName) ∈ hs_tbl := List.mem_filter.mpr ⟨List.mem_of_getElem? (i := 1031) (by decide +kernel), by decide +kernel⟩
theorem mt_737 : Cond.instanceMethod ({ cls := "UnitTurnsModel", name := "areAlike", desc := "(II)Z" } : MethodName) ∈ hs_tbl := List.mem_filter.mpr ⟨List.mem_of_getElem? (i := 1033) (by decide +kernel), by decide +kernel⟩
theorem mt_738 : Cond.selects "UnitTurnsModel" ⟨"UnitTurnsModel", "areAlike", "(II)Z"⟩ ⟨"UnitTurnsModel", "areAlike", "(II)Z"⟩ ∈ hs_tbl := List.mem_filter.mpr ⟨List.mem_of_getElem? (i := 61) (by decide +kernel), by decide +kernel⟩
theorem mv_X9_140 : hs_MV RX9 140 yX9_areAlike cX9_areAlike 7 (some .boolean) 2 9 := ⟨⟨mt_735, mt_493, mt_736, ⟨by decide +kernel, by decide +kernel, by decide +kernel⟩, by decide⟩, mt_737, mt_738, ⟨_, rfl, rfl⟩⟩
theorem mt_739 : Cond.code ({ cls := "UnitTurnsModel", name := "findStates", desc := "()V" } : MethodName) prog_11_method_30_code (5 : Nat) (Option.none : Option FieldType) ∈ hs_tbl := List.mem_filter.mpr ⟨List.mem_of_getElem? (i := 1010) (by decide +kernel), by decide +kernel⟩
theorem mt_740 : Cond.methodLink "UnitTurnsModel" (143 : Nat) ({ cls := "UnitTurnsModel", name := "findStates", desc := "()V" } : MethodName) ∈ hs_tbl := List.mem_filter.mpr ⟨List.mem_of_getElem? (i := 1007) (by decide +kernel), by decide +kernel⟩
theorem mt_741 : Cond.instanceMethod ({ cls := "UnitTurnsModel", name := "findStates", desc := "()V" } : MethodName) ∈ hs_tbl := List.mem_filter.mpr ⟨List.mem_of_getElem? (i := 1009) (by decide +kernel), by decide +kernel⟩
theorem mt_742 : Cond.selects "UnitTurnsModel" ⟨"UnitTurnsModel", "findStates", "()V"⟩ ⟨"UnitTurnsModel", "findStates", "()V"⟩ ∈ hs_tbl := List.mem_filter.mpr ⟨List.mem_of_getElem? (i := 55) (by decide +kernel), by decide +kernel⟩
theorem mv_X9_143 : hs_MV RX9 143 yX9_findStates cX9_findStates 5 none 0 9 := ⟨⟨mt_739, mt_493, mt_740, ⟨by decide +kernel, by decide +kernel, by decide +kernel⟩, by decide⟩, mt_741, mt_742, ⟨_, rfl, rfl⟩⟩
theorem mt_743 : Cond.code ({ cls := "UnitTurnsModel", name := "findClasses", desc := "()V" } : MethodName) prog_11_method_32_code (4 : Nat) (Option.none : Option FieldType) ∈ hs_tbl := List.mem_filter.mpr ⟨List.mem_of_getElem? (i := 1030) (by decide +kernel), by decide +kernel⟩
theorem mt_744 : Cond.methodLink "UnitTurnsModel" (146 : Nat) ({ cls := "UnitTurnsModel", name := "findClasses", desc := "()V" } : MethodName) ∈ hs_tbl := List.mem_filter.mpr ⟨List.mem_of_getElem? (i := 1027) (by decide +kernel), by decide +kernel⟩
theorem mt_745 : Cond.instanceMethod ({ cls := "UnitTurnsModel", name := "findClasses", desc := "()V" } : MethodName) ∈ hs_tbl := List.mem_filter.mpr ⟨List.mem_of_getElem? (i := 1029) (by decide +kernel), by decide +kernel⟩
theorem mt_746 : Cond.selects "UnitTurnsModel" ⟨"UnitTurnsModel", "findClasses", "()V"⟩ ⟨"UnitTurnsModel", "findClasses", "()V"⟩ ∈ hs_tbl := List.mem_filter.mpr ⟨List.mem_of_getElem? (i := 60) (by decide +kernel), by decide +kernel⟩
theorem mv_X9_146 : hs_MV RX9 146 yX9_findClasses cX9_findClasses 4 none 0 9 := ⟨⟨mt_743, mt_493, mt_744, ⟨by decide +kernel, by decide +kernel, by decide +kernel⟩, by decide⟩, mt_745, mt_746, ⟨_, rfl, rfl⟩⟩
theorem mt_747 : Cond.code ({ cls := "UnitTurnsModel", name := "isMuch", desc := "()Z" } : MethodName) prog_11_method_33_code (1 : Nat) (Option.some FieldType.boolean) ∈ hs_tbl := List.mem_filter.mpr ⟨List.mem_of_getElem? (i := 1006) (by decide +kernel), by decide +kernel⟩
theorem mt_748 : Cond.methodLink "UnitTurnsModel" (149 : Nat) ({ cls := "UnitTurnsModel", name := "isMuch", desc := "()Z" } : MethodName) ∈ hs_tbl := List.mem_filter.mpr ⟨List.mem_of_getElem? (i := 1003) (by decide +kernel), by decide +kernel⟩
theorem mt_749 : Cond.instanceMethod ({ cls := "UnitTurnsModel", name := "isMuch", desc := "()Z" } : MethodName) ∈ hs_tbl := List.mem_filter.mpr ⟨List.mem_of_getElem? (i := 1005) (by decide +kernel), by decide +kernel⟩
theorem mt_750 : Cond.selects "UnitTurnsModel" ⟨"UnitTurnsModel", "isMuch", "()Z"⟩ ⟨"UnitTurnsModel", "isMuch", "()Z"⟩ ∈ hs_tbl := List.mem_filter.mpr ⟨List.mem_of_getElem? (i := 54) (by decide +kernel), by decide +kernel⟩
theorem mv_X9_149 : hs_MV RX9 149 yX9_isMuch cX9_isMuch 1 (some .boolean) 0 9 := ⟨⟨mt_747, mt_493, mt_748, ⟨by decide +kernel, by decide +kernel, by decide +kernel⟩, by decide⟩, mt_749, mt_750, ⟨_, rfl, rfl⟩⟩
theorem mt_751 : Cond.code ({ cls := "UnitTurnsModel", name := "latency", desc := "(I)I" } : MethodName) prog_11_method_13_code (2 : Nat) (Option.some FieldType.int) ∈ hs_tbl := List.mem_filter.mpr ⟨List.mem_of_getElem? (i := 1070) (by decide +kernel), by decide +kernel⟩
theorem mt_752 : Cond.methodLink "UnitTurnsModel" (153 : Nat) ({ cls := "UnitTurnsModel", name := "latency", desc := "(I)I" } : MethodName) ∈ hs_tbl := List.mem_filter.mpr ⟨List.mem_of_getElem? (i := 1067) (by decide +kernel), by decide +kernel⟩
theorem mt_753 : Cond.instanceMethod ({ cls := "UnitTurnsModel", name := "latency", desc := "(I)I" } : MethodName) ∈ hs_tbl := List.mem_filter.mpr ⟨List.mem_of_getElem? (i := 1069) (by decide +kernel), by decide +kernel⟩
theorem mt_754 : Cond.selects "UnitTurnsModel" ⟨"UnitTurnsModel", "latency", "(I)I"⟩ ⟨"UnitTurnsModel", "latency", "(I)I"⟩ ∈ hs_tbl := List.mem_filter.mpr ⟨List.mem_of_getElem? (i := 66) (by decide +kernel), by decide +kernel⟩
theorem mv_X9_153 : hs_MV RX9 153 yX9_latency cX9_latency 2 (some .int) 1 9 := ⟨⟨mt_751, mt_493, mt_752, ⟨by decide +kernel, by decide +kernel, by decide +kernel⟩, by decide⟩, mt_753, mt_754, ⟨_, rfl, rfl⟩⟩
theorem mt_755 : Cond.code ({ cls := "UnitTurnsModel", name := "span", desc := "(I)I" } : MethodName) prog_11_method_38_code (5 : Nat) (Option.some FieldType.int) ∈ hs_tbl := List.mem_filter.mpr ⟨List.mem_of_getElem? (i := 1062) (by decide +kernel), by decide +kernel⟩
theorem mt_756 : Cond.methodLink "UnitTurnsModel" (156 : Nat) ({ cls := "UnitTurnsModel", name := "span", desc := "(I)I" } : MethodName) ∈ hs_tbl := List.mem_filter.mpr ⟨List.mem_of_getElem? (i := 1059) (by decide +kernel), by decide +kernel⟩
theorem mt_757 : Cond.instanceMethod ({ cls := "UnitTurnsModel", name := "span", desc := "(I)I" } : MethodName) ∈ hs_tbl := List.mem_filter.mpr ⟨List.mem_of_getElem? (i := 1061) (by decide +kernel), by decide +kernel⟩
theorem mt_758 : Cond.selects "UnitTurnsModel" ⟨"UnitTurnsModel", "span", "(I)I"⟩ ⟨"UnitTurnsModel", "span", "(I)I"⟩ ∈ hs_tbl := List.mem_filter.mpr ⟨List.mem_of_getElem? (i := 64) (by decide +kernel), by decide +kernel⟩
theorem mv_X9_156 : hs_MV RX9 156 yX9_span cX9_span 5 (some .int) 1 9 := ⟨⟨mt_755, mt_493, mt_756, ⟨by decide +kernel, by decide +kernel, by decide +kernel⟩, by decide⟩, mt_757, mt_758, ⟨_, rfl, rfl⟩⟩
theorem mt_759 : Cond.code ({ cls := "UnitTurnsModel", name := "counts", desc := "(II)I" } : MethodName) prog_11_method_15_code (4 : Nat) (Option.some FieldType.int) ∈ hs_tbl := List.mem_filter.mpr ⟨List.mem_of_getElem? (i := 1074) (by decide +kernel), by decide +kernel⟩
theorem mt_760 : Cond.methodLink "UnitTurnsModel" (159 : Nat) ({ cls := "UnitTurnsModel", name := "counts", desc := "(II)I" } : MethodName) ∈ hs_tbl := List.mem_filter.mpr ⟨List.mem_of_getElem? (i := 1071) (by decide +kernel), by decide +kernel⟩
theorem mt_761 : Cond.instanceMethod ({ cls := "UnitTurnsModel", name := "counts", desc := "(II)I" } : MethodName) ∈ hs_tbl := List.mem_filter.mpr ⟨List.mem_of_getElem? (i := 1073) (by decide +kernel), by decide +kernel⟩
theorem mt_762 : Cond.selects "UnitTurnsModel" ⟨"UnitTurnsModel", "counts", "(II)I"⟩ ⟨"UnitTurnsModel", "counts", "(II)I"⟩ ∈ hs_tbl := List.mem_filter.mpr ⟨List.mem_of_getElem? (i := 67) (by decide +kernel), by decide +kernel⟩
theorem mv_X9_159 : hs_MV RX9 159 yX9_counts cX9_counts 4 (some .int) 2 9 := ⟨⟨mt_759, mt_493, mt_760, ⟨by decide +kernel, by decide +kernel, by decide +kernel⟩, by decide⟩, mt_761, mt_762, ⟨_, rfl, rfl⟩⟩
theorem mt_763 : Cond.code ({ cls := "UnitTurnsModel", name := "behind", desc := "(II)I" } : MethodName) prog_11_method_39_code (3 : Nat) (Option.some FieldType.int) ∈ hs_tbl := List.mem_filter.mpr ⟨List.mem_of_getElem? (i := 1078) (by decide +kernel), by decide +kernel⟩
theorem mt_764 : Cond.methodLink "UnitTurnsModel" (162 : Nat) ({ cls := "UnitTurnsModel", name := "behind", desc := "(II)I" } : MethodName) ∈ hs_tbl := List.mem_filter.mpr ⟨List.mem_of_getElem? (i := 1075) (by decide +kernel), by decide +kernel⟩
theorem mt_765 : Cond.instanceMethod ({ cls := "UnitTurnsModel", name := "behind", desc := "(II)I" } : MethodName) ∈ hs_tbl := List.mem_filter.mpr ⟨List.mem_of_getElem? (i := 1077) (by decide +kernel), by decide +kernel⟩
theorem mt_766 : Cond.selects "UnitTurnsModel" ⟨"UnitTurnsModel", "behind", "(II)I"⟩ ⟨"UnitTurnsModel", "behind", "(II)I"⟩ ∈ hs_tbl := List.mem_filter.mpr ⟨List.mem_of_getElem? (i := 68) (by decide +kernel), by decide +kernel⟩
theorem mv_X9_162 : hs_MV RX9 162 yX9_behind cX9_behind 3 (some .int) 2 9 := ⟨⟨mt_763, mt_493, mt_764, ⟨by decide +kernel, by decide +kernel, by decide +kernel⟩, by decide⟩, mt_765, mt_766, ⟨_, rfl, rfl⟩⟩
theorem mt_767 : Cond.code ({ cls := "UnitTurnsModel", name := "findWays", desc := "()V" } : MethodName) prog_11_method_40_code (5 : Nat) (Option.none : Option FieldType) ∈ hs_tbl := List.mem_filter.mpr ⟨List.mem_of_getElem? (i := 1058) (by decide +kernel), by decide +kernel⟩
theorem mt_768 : Cond.methodLink "UnitTurnsModel" (165 : Nat) ({ cls := "UnitTurnsModel", name := "findWays", desc := "()V" } : MethodName) ∈ hs_tbl := List.mem_filter.mpr ⟨List.mem_of_getElem? (i := 1055) (by decide +kernel), by decide +kernel⟩
theorem mt_769 : Cond.instanceMethod ({ cls := "UnitTurnsModel", name := "findWays", desc := "()V" } : MethodName) ∈ hs_tbl := List.mem_filter.mpr ⟨List.mem_of_getElem? (i := 1057) (by decide +kernel), by decide +kernel⟩
theorem mt_770 : Cond.selects "UnitTurnsModel" ⟨"UnitTurnsModel", "findWays", "()V"⟩ ⟨"UnitTurnsModel", "findWays", "()V"⟩ ∈ hs_tbl := List.mem_filter.mpr ⟨List.mem_of_getElem? (i := 63) (by decide +kernel), by decide +kernel⟩
theorem mv_X9_165 : hs_MV RX9 165 yX9_findWays cX9_findWays 5 none 0 9 := ⟨⟨mt_767, mt_493, mt_768, ⟨by decide +kernel, by decide +kernel, by decide +kernel⟩, by decide⟩, mt_769, mt_770, ⟨_, rfl, rfl⟩⟩
theorem mt_771 : Cond.code ({ cls := "UnitTurnsModel", name := "heldTurns", desc := "(I)I" } : MethodName) prog_11_method_41_code (5 : Nat) (Option.some FieldType.int) ∈ hs_tbl := List.mem_filter.mpr ⟨List.mem_of_getElem? (i := 1082) (by decide +kernel), by decide +kernel⟩
theorem mt_772 : Cond.methodLink "UnitTurnsModel" (168 : Nat) ({ cls := "UnitTurnsModel", name := "heldTurns", desc := "(I)I" } : MethodName) ∈ hs_tbl := List.mem_filter.mpr ⟨List.mem_of_getElem? (i := 1079) (by decide +kernel), by decide +kernel⟩
theorem mt_773 : Cond.instanceMethod ({ cls := "UnitTurnsModel", name := "heldTurns", desc := "(I)I" } : MethodName) ∈ hs_tbl := List.mem_filter.mpr ⟨List.mem_of_getElem? (i := 1081) (by decide +kernel), by decide +kernel⟩
theorem mt_774 : Cond.selects "UnitTurnsModel" ⟨"UnitTurnsModel", "heldTurns", "(I)I"⟩ ⟨"UnitTurnsModel", "heldTurns", "(I)I"⟩ ∈ hs_tbl := List.mem_filter.mpr ⟨List.mem_of_getElem? (i := 69) (by decide +kernel), by decide +kernel⟩
theorem mv_X9_168 : hs_MV RX9 168 yX9_heldTurns cX9_heldTurns 5 (some .int) 1 9 := ⟨⟨mt_771, mt_493, mt_772, ⟨by decide +kernel, by decide +kernel, by decide +kernel⟩, by decide⟩, mt_773, mt_774, ⟨_, rfl, rfl⟩⟩
theorem mt_775 : Cond.code ({ cls := "UnitTurnsModel", name := "boundOf", desc := "()I" } : MethodName) prog_11_method_42_code (3 : Nat) (Option.some FieldType.int) ∈ hs_tbl := List.mem_filter.mpr ⟨List.mem_of_getElem? (i := 1054) (by decide +kernel), by decide +kernel⟩
theorem mt_776 : Cond.methodLink "UnitTurnsModel" (171 : Nat) ({ cls := "UnitTurnsModel", name := "boundOf", desc := "()I" } : MethodName) ∈ hs_tbl := List.mem_filter.mpr ⟨List.mem_of_getElem? (i := 1051) (by decide +kernel), by decide +kernel⟩
theorem mt_777 : Cond.instanceMethod ({ cls := "UnitTurnsModel", name := "boundOf", desc := "()I" } : MethodName) ∈ hs_tbl := List.mem_filter.mpr ⟨List.mem_of_getElem? (i := 1053) (by decide +kernel), by decide +kernel⟩
theorem mt_778 : Cond.selects "UnitTurnsModel" ⟨"UnitTurnsModel", "boundOf", "()I"⟩ ⟨"UnitTurnsModel", "boundOf", "()I"⟩ ∈ hs_tbl := List.mem_filter.mpr ⟨List.mem_of_getElem? (i := 62) (by decide +kernel), by decide +kernel⟩
theorem mv_X9_171 : hs_MV RX9 171 yX9_boundOf cX9_boundOf 3 (some .int) 0 9 := ⟨⟨mt_775, mt_493, mt_776, ⟨by decide +kernel, by decide +kernel, by decide +kernel⟩, by decide⟩, mt_777, mt_778, ⟨_, rfl, rfl⟩⟩
theorem mt_779 : Cond.code ({ cls := "UnitTurnsModel", name := "isFree", desc := "(II)Z" } : MethodName) prog_11_method_44_code (5 : Nat) (Option.some FieldType.boolean) ∈ hs_tbl := List.mem_filter.mpr ⟨List.mem_of_getElem? (i := 1110) (by decide +kernel), by decide +kernel⟩
theorem mt_780 : Cond.methodLink "UnitTurnsModel" (175 : Nat) ({ cls := "UnitTurnsModel", name := "isFree", desc := "(II)Z" } : MethodName) ∈ hs_tbl := List.mem_filter.mpr ⟨List.mem_of_getElem? (i := 1107) (by decide +kernel), by decide +kernel⟩
theorem mt_781 : Cond.instanceMethod ({ cls := "UnitTurnsModel", name := "isFree", desc := "(II)Z" } : MethodName) ∈ hs_tbl := List.mem_filter.mpr ⟨List.mem_of_getElem? (i := 1109) (by decide +kernel), by decide +kernel⟩
theorem mt_782 : Cond.selects "UnitTurnsModel" ⟨"UnitTurnsModel", "isFree", "(II)Z"⟩ ⟨"UnitTurnsModel", "isFree", "(II)Z"⟩ ∈ hs_tbl := List.mem_filter.mpr ⟨List.mem_of_getElem? (i := 75) (by decide +kernel), by decide +kernel⟩
theorem mv_X9_175 : hs_MV RX9 175 yX9_isFree cX9_isFree 5 (some .boolean) 2 9 := ⟨⟨mt_779, mt_493, mt_780, ⟨by decide +kernel, by decide +kernel, by decide +kernel⟩, by decide⟩, mt_781, mt_782, ⟨_, rfl, rfl⟩⟩
theorem mt_783 : Cond.code ({ cls := "UnitTurnsModel", name := "clearAll", desc := "()V" } : MethodName) prog_11_method_46_code (2 : Nat) (Option.none : Option FieldType) ∈ hs_tbl := List.mem_filter.mpr ⟨List.mem_of_getElem? (i := 1098) (by decide +kernel), by decide +kernel⟩
theorem mt_784 : Cond.methodLink "UnitTurnsModel" (178 : Nat) ({ cls := "UnitTurnsModel", name := "clearAll", desc := "()V" } : MethodName) ∈ hs_tbl := List.mem_filter.mpr ⟨List.mem_of_getElem? (i := 1095) (by decide +kernel), by decide +kernel⟩
theorem mt_785 : Cond.instanceMethod ({ cls := "UnitTurnsModel", name := "clearAll", desc := "()V" } : MethodName) ∈ hs_tbl := List.mem_filter.mpr ⟨List.mem_of_getElem? (i := 1097) (by decide +kernel), by decide +kernel⟩
theorem mt_786 : Cond.selects "UnitTurnsModel" ⟨"UnitTurnsModel", "clearAll", "()V"⟩ ⟨"UnitTurnsModel", "clearAll", "()V"⟩ ∈ hs_tbl := List.mem_filter.mpr ⟨List.mem_of_getElem? (i := 72) (by decide +kernel), by decide +kernel⟩
theorem mv_X9_178 : hs_MV RX9 178 yX9_clearAll cX9_clearAll 2 none 0 9 := ⟨⟨mt_783, mt_493, mt_784, ⟨by decide +kernel, by decide +kernel, by decide +kernel⟩, by decide⟩, mt_785, mt_786, ⟨_, rfl, rfl⟩⟩
theorem mt_787 : Cond.code ({ cls := "UnitTurnsModel", name := "exchange", desc := "(II)V" } : MethodName) prog_11_method_45_code (4 : Nat) (Option.none : Option FieldType) ∈ hs_tbl := List.mem_filter.mpr ⟨List.mem_of_getElem? (i := 1102) (by decide +kernel), by decide +kernel⟩
theorem mt_788 : Cond.methodLink "UnitTurnsModel" (181 : Nat) ({ cls := "UnitTurnsModel", name := "exchange", desc := "(II)V" } : MethodName) ∈ hs_tbl := List.mem_filter.mpr ⟨List.mem_of_getElem? (i := 1099) (by decide +kernel), by decide +kernel⟩
theorem mt_789 : Cond.instanceMethod ({ cls := "UnitTurnsModel", name := "exchange", desc := "(II)V" } : MethodName) ∈ hs_tbl := List.mem_filter.mpr ⟨List.mem_of_getElem? (i := 1101) (by decide +kernel), by decide +kernel⟩
theorem mt_790 : Cond.selects "UnitTurnsModel" ⟨"UnitTurnsModel", "exchange", "(II)V"⟩ ⟨"UnitTurnsModel", "exchange", "(II)V"⟩ ∈ hs_tbl := List.mem_filter.mpr ⟨List.mem_of_getElem? (i := 73) (by decide +kernel), by decide +kernel⟩
theorem mv_X9_181 : hs_MV RX9 181 yX9_exchange cX9_exchange 4 none 2 9 := ⟨⟨mt_787, mt_493, mt_788, ⟨by decide +kernel, by decide +kernel, by decide +kernel⟩, by decide⟩, mt_789, mt_790, ⟨_, rfl, rfl⟩⟩
theorem mt_791 : Cond.code ({ cls := "UnitTurnsModel", name := "mayBegin", desc := "(III)Z" } : MethodName) prog_11_method_47_code (9 : Nat) (Option.some FieldType.boolean) ∈ hs_tbl := List.mem_filter.mpr ⟨List.mem_of_getElem? (i := 1106) (by decide +kernel), by decide +kernel⟩
theorem mt_792 : Cond.methodLink "UnitTurnsModel" (185 : Nat) ({ cls := "UnitTurnsModel", name := "mayBegin", desc := "(III)Z" } : MethodName) ∈ hs_tbl := List.mem_filter.mpr ⟨List.mem_of_getElem? (i := 1103) (by decide +kernel), by decide +kernel⟩
theorem mt_793 : Cond.instanceMethod ({ cls := "UnitTurnsModel", name := "mayBegin", desc := "(III)Z" } : MethodName) ∈ hs_tbl := List.mem_filter.mpr ⟨List.mem_of_getElem? (i := 1105) (by decide +kernel), by decide +kernel⟩
theorem mt_794 : Cond.selects "UnitTurnsModel" ⟨"UnitTurnsModel", "mayBegin", "(III)Z"⟩ ⟨"UnitTurnsModel", "mayBegin", "(III)Z"⟩ ∈ hs_tbl := List.mem_filter.mpr ⟨List.mem_of_getElem? (i := 74) (by decide +kernel), by decide +kernel⟩
theorem mv_X9_185 : hs_MV RX9 185 yX9_mayBegin cX9_mayBegin 9 (some .boolean) 3 9 := ⟨⟨mt_791, mt_493, mt_792, ⟨by decide +kernel, by decide +kernel, by decide +kernel⟩, by decide⟩, mt_793, mt_794, ⟨_, rfl, rfl⟩⟩
theorem mt_795 : Cond.code ({ cls := "UnitTurnsModel", name := "isFound", desc := "(I)Z" } : MethodName) prog_11_method_48_code (5 : Nat) (Option.some FieldType.boolean) ∈ hs_tbl := List.mem_filter.mpr ⟨List.mem_of_getElem? (i := 1094) (by decide +kernel), by decide +kernel⟩
theorem mt_796 : Cond.methodLink "UnitTurnsModel" (188 : Nat) ({ cls := "UnitTurnsModel", name := "isFound", desc := "(I)Z" } : MethodName) ∈ hs_tbl := List.mem_filter.mpr ⟨List.mem_of_getElem? (i := 1091) (by decide +kernel), by decide +kernel⟩
theorem mt_797 : Cond.instanceMethod ({ cls := "UnitTurnsModel", name := "isFound", desc := "(I)Z" } : MethodName) ∈ hs_tbl := List.mem_filter.mpr ⟨List.mem_of_getElem? (i := 1093) (by decide +kernel), by decide +kernel⟩
theorem mt_798 : Cond.selects "UnitTurnsModel" ⟨"UnitTurnsModel", "isFound", "(I)Z"⟩ ⟨"UnitTurnsModel", "isFound", "(I)Z"⟩ ∈ hs_tbl := List.mem_filter.mpr ⟨List.mem_of_getElem? (i := 71) (by decide +kernel), by decide +kernel⟩
theorem mv_X9_188 : hs_MV RX9 188 yX9_isFound cX9_isFound 5 (some .boolean) 1 9 := ⟨⟨mt_795, mt_493, mt_796, ⟨by decide +kernel, by decide +kernel, by decide +kernel⟩, by decide⟩, mt_797, mt_798, ⟨_, rfl, rfl⟩⟩
theorem mt_799 : Cond.code ({ cls := "UnitTurnsModel", name := "lengthOf", desc := "()I" } : MethodName) prog_11_method_49_code (3 : Nat) (Option.some FieldType.int) ∈ hs_tbl := List.mem_filter.mpr ⟨List.mem_of_getElem? (i := 1114) (by decide +kernel), by decide +kernel⟩
theorem mt_800 : Cond.methodLink "UnitTurnsModel" (191 : Nat) ({ cls := "UnitTurnsModel", name := "lengthOf", desc := "()I" } : MethodName) ∈ hs_tbl := List.mem_filter.mpr ⟨List.mem_of_getElem? (i := 1111) (by decide +kernel), by decide +kernel⟩
theorem mt_801 : Cond.instanceMethod ({ cls := "UnitTurnsModel", name := "lengthOf", desc := "()I" } : MethodName) ∈ hs_tbl := List.mem_filter.mpr ⟨List.mem_of_getElem? (i := 1113) (by decide +kernel), by decide +kernel⟩
theorem mt_802 : Cond.selects "UnitTurnsModel" ⟨"UnitTurnsModel", "lengthOf", "()I"⟩ ⟨"UnitTurnsModel", "lengthOf", "()I"⟩ ∈ hs_tbl := List.mem_filter.mpr ⟨List.mem_of_getElem? (i := 76) (by decide +kernel), by decide +kernel⟩
theorem mv_X9_191 : hs_MV RX9 191 yX9_lengthOf cX9_lengthOf 3 (some .int) 0 9 := ⟨⟨mt_799, mt_493, mt_800, ⟨by decide +kernel, by decide +kernel, by decide +kernel⟩, by decide⟩, mt_801, mt_802, ⟨_, rfl, rfl⟩⟩
theorem mt_803 : Cond.code ({ cls := "UnitTurnsModel", name := "findBest", desc := "()I" } : MethodName) prog_11_method_50_code (2 : Nat) (Option.some FieldType.int) ∈ hs_tbl := List.mem_filter.mpr ⟨List.mem_of_getElem? (i := 1090) (by decide +kernel), by decide +kernel⟩
theorem mt_804 : Cond.methodLink "UnitTurnsModel" (194 : Nat) ({ cls := "UnitTurnsModel", name := "findBest", desc := "()I" } : MethodName) ∈ hs_tbl := List.mem_filter.mpr ⟨List.mem_of_getElem? (i := 1087) (by decide +kernel), by decide +kernel⟩
theorem mt_805 : Cond.instanceMethod ({ cls := "UnitTurnsModel", name := "findBest", desc := "()I" } : MethodName) ∈ hs_tbl := List.mem_filter.mpr ⟨List.mem_of_getElem? (i := 1089) (by decide +kernel), by decide +kernel⟩
theorem mt_806 : Cond.selects "UnitTurnsModel" ⟨"UnitTurnsModel", "findBest", "()I"⟩ ⟨"UnitTurnsModel", "findBest", "()I"⟩ ∈ hs_tbl := List.mem_filter.mpr ⟨List.mem_of_getElem? (i := 70) (by decide +kernel), by decide +kernel⟩
theorem mv_X9_194 : hs_MV RX9 194 yX9_findBest cX9_findBest 2 (some .int) 0 9 := ⟨⟨mt_803, mt_493, mt_804, ⟨by decide +kernel, by decide +kernel, by decide +kernel⟩, by decide⟩, mt_805, mt_806, ⟨_, rfl, rfl⟩⟩
theorem mt_807 : Cond.code ({ cls := "UnitTurnsModel", name := "rank", desc := "(II)I" } : MethodName) prog_11_method_52_code (5 : Nat) (Option.some FieldType.int) ∈ hs_tbl := List.mem_filter.mpr ⟨List.mem_of_getElem? (i := 1130) (by decide +kernel), by decide +kernel⟩
theorem mt_808 : Cond.methodLink "UnitTurnsModel" (197 : Nat) ({ cls := "UnitTurnsModel", name := "rank", desc := "(II)I" } : MethodName) ∈ hs_tbl := List.mem_filter.mpr ⟨List.mem_of_getElem? (i := 1127) (by decide +kernel), by decide +kernel⟩
theorem mt_809 : Cond.instanceMethod ({ cls := "UnitTurnsModel", name := "rank", desc := "(II)I" } : MethodName) ∈ hs_tbl := List.mem_filter.mpr ⟨List.mem_of_getElem? (i := 1129) (by decide +kernel), by decide +kernel⟩
theorem mt_810 : Cond.selects "UnitTurnsModel" ⟨"UnitTurnsModel", "rank", "(II)I"⟩ ⟨"UnitTurnsModel", "rank", "(II)I"⟩ ∈ hs_tbl := List.mem_filter.mpr ⟨List.mem_of_getElem? (i := 79) (by decide +kernel), by decide +kernel⟩
theorem mv_X9_197 : hs_MV RX9 197 yX9_rank cX9_rank 5 (some .int) 2 9 := ⟨⟨mt_807, mt_493, mt_808, ⟨by decide +kernel, by decide +kernel, by decide +kernel⟩, by decide⟩, mt_809, mt_810, ⟨_, rfl, rfl⟩⟩
theorem mt_811 : Cond.code ({ cls := "UnitTurnsModel", name := "findOrder", desc := "(I)V" } : MethodName) prog_11_method_53_code (4 : Nat) (Option.none : Option FieldType) ∈ hs_tbl := List.mem_filter.mpr ⟨List.mem_of_getElem? (i := 1126) (by decide +kernel), by decide +kernel⟩
theorem mt_812 : Cond.methodLink "UnitTurnsModel" (200 : Nat) ({ cls := "UnitTurnsModel", name := "findOrder", desc := "(I)V" } : MethodName) ∈ hs_tbl := List.mem_filter.mpr ⟨List.mem_of_getElem? (i := 1123) (by decide +kernel), by decide +kernel⟩
theorem mt_813 : Cond.instanceMethod ({ cls := "UnitTurnsModel", name := "findOrder", desc := "(I)V" } : MethodName) ∈ hs_tbl := List.mem_filter.mpr ⟨List.mem_of_getElem? (i := 1125) (by decide +kernel), by decide +kernel⟩
theorem mt_814 : Cond.selects "UnitTurnsModel" ⟨"UnitTurnsModel", "findOrder", "(I)V"⟩ ⟨"UnitTurnsModel", "findOrder", "(I)V"⟩ ∈ hs_tbl := List.mem_filter.mpr ⟨List.mem_of_getElem? (i := 78) (by decide +kernel), by decide +kernel⟩
theorem mv_X9_200 : hs_MV RX9 200 yX9_findOrder cX9_findOrder 4 none 1 9 := ⟨⟨mt_811, mt_493, mt_812, ⟨by decide +kernel, by decide +kernel, by decide +kernel⟩, by decide⟩, mt_813, mt_814, ⟨_, rfl, rfl⟩⟩
theorem mt_815 : Cond.code ({ cls := "UnitTurnsModel", name := "isReady", desc := "(II)Z" } : MethodName) prog_11_method_54_code (6 : Nat) (Option.some FieldType.boolean) ∈ hs_tbl := List.mem_filter.mpr ⟨List.mem_of_getElem? (i := 1134) (by decide +kernel), by decide +kernel⟩
theorem mt_816 : Cond.methodLink "UnitTurnsModel" (204 : Nat) ({ cls := "UnitTurnsModel", name := "isReady", desc := "(II)Z" } : MethodName) ∈ hs_tbl := List.mem_filter.mpr ⟨List.mem_of_getElem? (i := 1131) (by decide +kernel), by decide +kernel⟩
theorem mt_817 : Cond.instanceMethod ({ cls := "UnitTurnsModel", name := "isReady", desc := "(II)Z" } : MethodName) ∈ hs_tbl := List.mem_filter.mpr ⟨List.mem_of_getElem? (i := 1133) (by decide +kernel), by decide +kernel⟩
theorem mt_818 : Cond.selects "UnitTurnsModel" ⟨"UnitTurnsModel", "isReady", "(II)Z"⟩ ⟨"UnitTurnsModel", "isReady", "(II)Z"⟩ ∈ hs_tbl := List.mem_filter.mpr ⟨List.mem_of_getElem? (i := 80) (by decide +kernel), by decide +kernel⟩
theorem mv_X9_204 : hs_MV RX9 204 yX9_isReady cX9_isReady 6 (some .boolean) 2 9 := ⟨⟨mt_815, mt_493, mt_816, ⟨by decide +kernel, by decide +kernel, by decide +kernel⟩, by decide⟩, mt_817, mt_818, ⟨_, rfl, rfl⟩⟩
theorem mt_819 : Cond.code ({ cls := "UnitTurnsModel", name := "findRanked", desc := "(I)I" } : MethodName) prog_11_method_55_code (7 : Nat) (Option.some FieldType.int) ∈ hs_tbl := List.mem_filter.mpr ⟨List.mem_of_getElem? (i := 1122) (by decide +kernel), by decide +kernel⟩
theorem mt_820 : Cond.methodLink "UnitTurnsModel" (207 : Nat) ({ cls := "UnitTurnsModel", name := "findRanked", desc := "(I)I" } : MethodName) ∈ hs_tbl := List.mem_filter.mpr ⟨List.mem_of_getElem? (i := 1119) (by decide +kernel), by decide +kernel⟩
theorem mt_821 : Cond.instanceMethod ({ cls := "UnitTurnsModel", name := "findRanked", desc := "(I)I" } : MethodName) ∈ hs_tbl := List.mem_filter.mpr ⟨List.mem_of_getElem? (i := 1121) (by decide +kernel), by decide +kernel⟩
theorem mt_822 : Cond.selects "UnitTurnsModel" ⟨"UnitTurnsModel", "findRanked", "(I)I"⟩ ⟨"UnitTurnsModel", "findRanked", "(I)I"⟩ ∈ hs_tbl := List.mem_filter.mpr ⟨List.mem_of_getElem? (i := 77) (by decide +kernel), by decide +kernel⟩
theorem mv_X9_207 : hs_MV RX9 207 yX9_findRanked cX9_findRanked 7 (some .int) 1 9 := ⟨⟨mt_819, mt_493, mt_820, ⟨by decide +kernel, by decide +kernel, by decide +kernel⟩, by decide⟩, mt_821, mt_822, ⟨_, rfl, rfl⟩⟩
theorem mt_823 : Cond.code ({ cls := "UnitTurnsModel", name := "toldOfKind", desc := "(II)I" } : MethodName) prog_11_method_58_code (5 : Nat) (Option.some FieldType.int) ∈ hs_tbl := List.mem_filter.mpr ⟨List.mem_of_getElem? (i := 1146) (by decide +kernel), by decide +kernel⟩
theorem mt_824 : Cond.methodLink "UnitTurnsModel" (210 : Nat) ({ cls := "UnitTurnsModel", name := "toldOfKind", desc := "(II)I" } : MethodName) ∈ hs_tbl := List.mem_filter.mpr ⟨List.mem_of_getElem? (i := 1143) (by decide +kernel), by decide +kernel⟩
theorem mt_825 : Cond.instanceMethod ({ cls := "UnitTurnsModel", name := "toldOfKind", desc := "(II)I" } : MethodName) ∈ hs_tbl := List.mem_filter.mpr ⟨List.mem_of_getElem? (i := 1145) (by decide +kernel), by decide +kernel⟩
theorem mt_826 : Cond.selects "UnitTurnsModel" ⟨"UnitTurnsModel", "toldOfKind", "(II)I"⟩ ⟨"UnitTurnsModel", "toldOfKind", "(II)I"⟩ ∈ hs_tbl := List.mem_filter.mpr ⟨List.mem_of_getElem? (i := 81) (by decide +kernel), by decide +kernel⟩
theorem mv_X9_210 : hs_MV RX9 210 yX9_toldOfKind cX9_toldOfKind 5 (some .int) 2 9 := ⟨⟨mt_823, mt_493, mt_824, ⟨by decide +kernel, by decide +kernel, by decide +kernel⟩, by decide⟩, mt_825, mt_826, ⟨_, rfl, rfl⟩⟩
theorem mt_827 : Cond.code ({ cls := "UnitTurnsModel", name := "aboutOne", desc := "(II)I" } : MethodName) prog_11_method_60_code (5 : Nat) (Option.some FieldType.int) ∈ hs_tbl := List.mem_filter.mpr ⟨List.mem_of_getElem? (i := 1154) (by decide +kernel), by decide +kernel⟩
theorem mt_828 : Cond.methodLink "UnitTurnsModel" (213 : Nat) ({ cls := "UnitTurnsModel", name := "aboutOne", desc := "(II)I" } : MethodName) ∈ hs_tbl := List.mem_filter.mpr ⟨List.mem_of_getElem? (i := 1151) (by decide +kernel), by decide +kernel⟩
theorem mt_829 : Cond.instanceMethod ({ cls := "UnitTurnsModel", name := "aboutOne", desc := "(II)I" } : MethodName) ∈ hs_tbl := List.mem_filter.mpr ⟨List.mem_of_getElem? (i := 1153) (by decide +kernel), by decide +kernel⟩
theorem mt_830 : Cond.selects "UnitTurnsModel" ⟨"UnitTurnsModel", "aboutOne", "(II)I"⟩ ⟨"UnitTurnsModel", "aboutOne", "(II)I"⟩ ∈ hs_tbl := List.mem_filter.mpr ⟨List.mem_of_getElem? (i := 82) (by decide +kernel), by decide +kernel⟩
theorem mv_X9_213 : hs_MV RX9 213 yX9_aboutOne cX9_aboutOne 5 (some .int) 2 9 := ⟨⟨mt_827, mt_493, mt_828, ⟨by decide +kernel, by decide +kernel, by decide +kernel⟩, by decide⟩, mt_829, mt_830, ⟨_, rfl, rfl⟩⟩
theorem mt_831 : Cond.code ({ cls := "UnitTurnsModel", name := "here", desc := "()I" } : MethodName) prog_11_method_64_code (1 : Nat) (Option.some FieldType.int) ∈ hs_tbl := List.mem_filter.mpr ⟨List.mem_of_getElem? (i := 1170) (by decide +kernel), by decide +kernel⟩
theorem mt_832 : Cond.methodLink "UnitTurnsModel" (225 : Nat) ({ cls := "UnitTurnsModel", name := "here", desc := "()I" } : MethodName) ∈ hs_tbl := List.mem_filter.mpr ⟨List.mem_of_getElem? (i := 1167) (by decide +kernel), by decide +kernel⟩
theorem mt_833 : Cond.instanceMethod ({ cls := "UnitTurnsModel", name := "here", desc := "()I" } : MethodName) ∈ hs_tbl := List.mem_filter.mpr ⟨List.mem_of_getElem? (i := 1169) (by decide +kernel), by decide +kernel⟩
theorem mt_834 : Cond.selects "UnitTurnsModel" ⟨"UnitTurnsModel", "here", "()I"⟩ ⟨"UnitTurnsModel", "here", "()I"⟩ ∈ hs_tbl := List.mem_filter.mpr ⟨List.mem_of_getElem? (i := 83) (by decide +kernel), by decide +kernel⟩
theorem mv_X9_225 : hs_MV RX9 225 yX9_here cX9_here 1 (some .int) 0 9 := ⟨⟨mt_831, mt_493, mt_832, ⟨by decide +kernel, by decide +kernel, by decide +kernel⟩, by decide⟩, mt_833, mt_834, ⟨_, rfl, rfl⟩⟩
theorem mt_835 : Cond.code ({ cls := "UnitTurnsModel", name := "must", desc := "(Z)V" } : MethodName) prog_11_method_65_code (2 : Nat) (Option.none : Option FieldType) ∈ hs_tbl := List.mem_filter.mpr ⟨List.mem_of_getElem? (i := 1174) (by decide +kernel), by decide +kernel⟩
theorem mt_836 : Cond.methodLink "UnitTurnsModel" (228 : Nat) ({ cls := "UnitTurnsModel", name := "must", desc := "(Z)V" } : MethodName) ∈ hs_tbl := List.mem_filter.mpr ⟨List.mem_of_getElem? (i := 1171) (by decide +kernel), by decide +kernel⟩
theorem mt_837 : Cond.instanceMethod ({ cls := "UnitTurnsModel", name := "must", desc := "(Z)V" } : MethodName) ∈ hs_tbl := List.mem_filter.mpr ⟨List.mem_of_getElem? (i := 1173) (by decide +kernel), by decide +kernel⟩
theorem mt_838 : Cond.selects "UnitTurnsModel" ⟨"UnitTurnsModel", "must", "(Z)V"⟩ ⟨"UnitTurnsModel", "must", "(Z)V"⟩ ∈ hs_tbl := List.mem_filter.mpr ⟨List.mem_of_getElem? (i := 84) (by decide +kernel), by decide +kernel⟩
theorem mv_X9_228 : hs_MV RX9 228 yX9_must cX9_must 2 none 1 9 := ⟨⟨mt_835, mt_493, mt_836, ⟨by decide +kernel, by decide +kernel, by decide +kernel⟩, by decide⟩, mt_837, mt_838, ⟨_, rfl, rfl⟩⟩
theorem mt_839 : Cond.code ({ cls := "UnitTurnsModel", name := "isFigure", desc := "()Z" } : MethodName) prog_11_method_66_code (1 : Nat) (Option.some FieldType.boolean) ∈ hs_tbl := List.mem_filter.mpr ⟨List.mem_of_getElem? (i := 1189) (by decide +kernel), by decide +kernel⟩
theorem mt_840 : Cond.methodLink "UnitTurnsModel" (232 : Nat) ({ cls := "UnitTurnsModel", name := "isFigure", desc := "()Z" } : MethodName) ∈ hs_tbl := List.mem_filter.mpr ⟨List.mem_of_getElem? (i := 1186) (by decide +kernel), by decide +kernel⟩
theorem mt_841 : Cond.instanceMethod ({ cls := "UnitTurnsModel", name := "isFigure", desc := "()Z" } : MethodName) ∈ hs_tbl := List.mem_filter.mpr ⟨List.mem_of_getElem? (i := 1188) (by decide +kernel), by decide +kernel⟩
theorem mt_842 : Cond.selects "UnitTurnsModel" ⟨"UnitTurnsModel", "isFigure", "()Z"⟩ ⟨"UnitTurnsModel", "isFigure", "()Z"⟩ ∈ hs_tbl := List.mem_filter.mpr ⟨List.mem_of_getElem? (i := 87) (by decide +kernel), by decide +kernel⟩
theorem mv_X9_232 : hs_MV RX9 232 yX9_isFigure cX9_isFigure 1 (some .boolean) 0 9 := ⟨⟨mt_839, mt_493, mt_840, ⟨by decide +kernel, by decide +kernel, by decide +kernel⟩, by decide⟩, mt_841, mt_842, ⟨_, rfl, rfl⟩⟩
theorem mt_843 : Cond.code ({ cls := "UnitTurnsModel", name := "numbersOf", desc := "(I)I" } : MethodName) prog_11_method_68_code (1 : Nat) (Option.some FieldType.int) ∈ hs_tbl := List.mem_filter.mpr ⟨List.mem_of_getElem? (i := 1181) (by decide +kernel), by decide +kernel⟩
theorem mt_844 : Cond.methodLink "UnitTurnsModel" (235 : Nat) ({ cls := "UnitTurnsModel", name := "numbersOf", desc := "(I)I" } : MethodName) ∈ hs_tbl := List.mem_filter.mpr ⟨List.mem_of_getElem? (i := 1179) (by decide +kernel), by decide +kernel⟩
theorem mt_845 : Cond.static ({ cls := "UnitTurnsModel", name := "numbersOf", desc := "(I)I" } : MethodName) ∈ hs_tbl := List.mem_filter.mpr ⟨List.mem_of_getElem? (i := 1180) (by decide +kernel), by decide +kernel⟩
theorem ms_X9_235 : hs_MS RX9 235 yX9_numbersOf cX9_numbersOf 1 (some .int) 1 := ⟨⟨mt_843, mt_493, mt_844, ⟨by decide +kernel, by decide +kernel, by decide +kernel⟩, by decide⟩, mt_845⟩
theorem mt_846 : Cond.code ({ cls := "UnitTurnsModel", name := "figures", desc := "()I" } : MethodName) prog_11_method_67_code (3 : Nat) (Option.some FieldType.int) ∈ hs_tbl := List.mem_filter.mpr ⟨List.mem_of_getElem? (i := 1185) (by decide +kernel), by decide +kernel⟩
theorem mt_847 : Cond.methodLink "UnitTurnsModel" (241 : Nat) ({ cls := "UnitTurnsModel", name := "figures", desc := "()I" } : MethodName) ∈ hs_tbl := List.mem_filter.mpr ⟨List.mem_of_getElem? (i := 1182) (by decide +kernel), by decide +kernel⟩
theorem mt_848 : Cond.instanceMethod ({ cls := "UnitTurnsModel", name := "figures", desc := "()I" } : MethodName) ∈ hs_tbl := List.mem_filter.mpr ⟨List.mem_of_getElem? (i := 1184) (by decide +kernel), by decide +kernel⟩
theorem mt_849 : Cond.selects "UnitTurnsModel" ⟨"UnitTurnsModel", "figures", "()I"⟩ ⟨"UnitTurnsModel", "figures", "()I"⟩ ∈ hs_tbl := List.mem_filter.mpr ⟨List.mem_of_getElem? (i := 86) (by decide +kernel), by decide +kernel⟩
theorem mv_X9_241 : hs_MV RX9 241 yX9_figures cX9_figures 3 (some .int) 0 9 := ⟨⟨mt_846, mt_493, mt_847, ⟨by decide +kernel, by decide +kernel, by decide +kernel⟩, by decide⟩, mt_848, mt_849, ⟨_, rfl, rfl⟩⟩
theorem mt_850 : Cond.code ({ cls := "UnitTurnsModel", name := "readOrder", desc := "()V" } : MethodName) prog_11_method_69_code (4 : Nat) (Option.none : Option FieldType) ∈ hs_tbl := List.mem_filter.mpr ⟨List.mem_of_getElem? (i := 1178) (by decide +kernel), by decide +kernel⟩
theorem mt_851 : Cond.methodLink "UnitTurnsModel" (244 : Nat) ({ cls := "UnitTurnsModel", name := "readOrder", desc := "()V" } : MethodName) ∈ hs_tbl := List.mem_filter.mpr ⟨List.mem_of_getElem? (i := 1175) (by decide +kernel), by decide +kernel⟩
theorem mt_852 : Cond.instanceMethod ({ cls := "UnitTurnsModel", name := "readOrder", desc := "()V" } : MethodName) ∈ hs_tbl := List.mem_filter.mpr ⟨List.mem_of_getElem? (i := 1177) (by decide +kernel), by decide +kernel⟩
theorem mt_853 : Cond.selects "UnitTurnsModel" ⟨"UnitTurnsModel", "readOrder", "()V"⟩ ⟨"UnitTurnsModel", "readOrder", "()V"⟩ ∈ hs_tbl := List.mem_filter.mpr ⟨List.mem_of_getElem? (i := 85) (by decide +kernel), by decide +kernel⟩
theorem mv_X9_244 : hs_MV RX9 244 yX9_readOrder cX9_readOrder 4 none 0 9 := ⟨⟨mt_850, mt_493, mt_851, ⟨by decide +kernel, by decide +kernel, by decide +kernel⟩, by decide⟩, mt_852, mt_853, ⟨_, rfl, rfl⟩⟩
theorem mt_854 : Cond.code ({ cls := "UnitTurnsModel", name := "doOrder", desc := "(I)I" } : MethodName) prog_11_method_70_code (4 : Nat) (Option.some FieldType.int) ∈ hs_tbl := List.mem_filter.mpr ⟨List.mem_of_getElem? (i := 1193) (by decide +kernel), by decide +kernel⟩
theorem mt_855 : Cond.methodLink "UnitTurnsModel" (247 : Nat) ({ cls := "UnitTurnsModel", name := "doOrder", desc := "(I)I" } : MethodName) ∈ hs_tbl := List.mem_filter.mpr ⟨List.mem_of_getElem? (i := 1190) (by decide +kernel), by decide +kernel⟩
theorem mt_856 : Cond.instanceMethod ({ cls := "UnitTurnsModel", name := "doOrder", desc := "(I)I" } : MethodName) ∈ hs_tbl := List.mem_filter.mpr ⟨List.mem_of_getElem? (i := 1192) (by decide +kernel), by decide +kernel⟩
theorem mt_857 : Cond.selects "UnitTurnsModel" ⟨"UnitTurnsModel", "doOrder", "(I)I"⟩ ⟨"UnitTurnsModel", "doOrder", "(I)I"⟩ ∈ hs_tbl := List.mem_filter.mpr ⟨List.mem_of_getElem? (i := 88) (by decide +kernel), by decide +kernel⟩
theorem mv_X9_247 : hs_MV RX9 247 yX9_doOrder cX9_doOrder 4 (some .int) 1 9 := ⟨⟨mt_854, mt_493, mt_855, ⟨by decide +kernel, by decide +kernel, by decide +kernel⟩, by decide⟩, mt_856, mt_857, ⟨_, rfl, rfl⟩⟩
theorem mt_858 : Cond.code ({ cls := "UnitTurnsModel", name := "toldOf", desc := "(I)I" } : MethodName) prog_11_method_72_code (2 : Nat) (Option.some FieldType.int) ∈ hs_tbl := List.mem_filter.mpr ⟨List.mem_of_getElem? (i := 1201) (by decide +kernel), by decide +kernel⟩
theorem mt_859 : Cond.methodLink "UnitTurnsModel" (250 : Nat) ({ cls := "UnitTurnsModel", name := "toldOf", desc := "(I)I" } : MethodName) ∈ hs_tbl := List.mem_filter.mpr ⟨List.mem_of_getElem? (i := 1198) (by decide +kernel), by decide +kernel⟩
theorem mt_860 : Cond.instanceMethod ({ cls := "UnitTurnsModel", name := "toldOf", desc := "(I)I" } : MethodName) ∈ hs_tbl := List.mem_filter.mpr ⟨List.mem_of_getElem? (i := 1200) (by decide +kernel), by decide +kernel⟩
theorem mt_861 : Cond.selects "UnitTurnsModel" ⟨"UnitTurnsModel", "toldOf", "(I)I"⟩ ⟨"UnitTurnsModel", "toldOf", "(I)I"⟩ ∈ hs_tbl := List.mem_filter.mpr ⟨List.mem_of_getElem? (i := 89) (by decide +kernel), by decide +kernel⟩
theorem mv_X9_250 : hs_MV RX9 250 yX9_toldOf cX9_toldOf 2 (some .int) 1 9 := ⟨⟨mt_858, mt_493, mt_859, ⟨by decide +kernel, by decide +kernel, by decide +kernel⟩, by decide⟩, mt_860, mt_861, ⟨_, rfl, rfl⟩⟩
theorem mt_862 : Cond.code ({ cls := "UnitTurnsModel", name := "mix", desc := "(I)V" } : MethodName) prog_11_method_74_code (2 : Nat) (Option.none : Option FieldType) ∈ hs_tbl := List.mem_filter.mpr ⟨List.mem_of_getElem? (i := 1210) (by decide +kernel), by decide +kernel⟩
theorem mt_863 : Cond.methodLink "UnitTurnsModel" (261 : Nat) ({ cls := "UnitTurnsModel", name := "mix", desc := "(I)V" } : MethodName) ∈ hs_tbl := List.mem_filter.mpr ⟨List.mem_of_getElem? (i := 1207) (by decide +kernel), by decide +kernel⟩
theorem mt_864 : Cond.instanceMethod ({ cls := "UnitTurnsModel", name := "mix", desc := "(I)V" } : MethodName) ∈ hs_tbl := List.mem_filter.mpr ⟨List.mem_of_getElem? (i := 1209) (by decide +kernel), by decide +kernel⟩
theorem mt_865 : Cond.selects "UnitTurnsModel" ⟨"UnitTurnsModel", "mix", "(I)V"⟩ ⟨"UnitTurnsModel", "mix", "(I)V"⟩ ∈ hs_tbl := List.mem_filter.mpr ⟨List.mem_of_getElem? (i := 90) (by decide +kernel), by decide +kernel⟩
theorem mv_X9_261 : hs_MV RX9 261 yX9_mix cX9_mix 2 none 1 9 := ⟨⟨mt_862, mt_493, mt_863, ⟨by decide +kernel, by decide +kernel, by decide +kernel⟩, by decide⟩, mt_864, mt_865, ⟨_, rfl, rfl⟩⟩
theorem mt_866 : Cond.constantLong "UnitTurns" (192 : Nat) (2459 : Int64) ∈ hs_tbl := List.mem_filter.mpr ⟨List.mem_of_getElem? (i := 832) (by decide +kernel), by decide +kernel⟩
theorem kc_X8_192 : Cond.constantLong RX8 192 (2459) ∈ hs_tbl := mt_866
theorem mt_867 : Cond.constantLong "UnitTurns" (194 : Nat) (31 : Int64) ∈ hs_tbl := List.mem_filter.mpr ⟨List.mem_of_getElem? (i := 833) (by decide +kernel), by decide +kernel⟩
theorem kc_X8_194 : Cond.constantLong RX8 194 (31) ∈ hs_tbl := mt_867
theorem mt_868 : Cond.constant "UnitTurns$Search" (142 : Nat) (67108863 : Int32) ∈ hs_tbl := List.mem_filter.mpr ⟨List.mem_of_getElem? (i := 664) (by decide +kernel), by decide +kernel⟩
theorem kc_X5_142 : Cond.constant RX5 142 (67108863) ∈ hs_tbl := mt_868
theorem mt_869 : Cond.constantLong "UnitTurnsModel" (253 : Nat) (31 : Int64) ∈ hs_tbl := List.mem_filter.mpr ⟨List.mem_of_getElem? (i := 1211) (by decide +kernel), by decide +kernel⟩
theorem kc_X9_253 : Cond.constantLong RX9 253 (31) ∈ hs_tbl := mt_869
theorem mt_870 : Cond.constantLong "UnitTurnsModel" (259 : Nat) (2459 : Int64) ∈ hs_tbl := List.mem_filter.mpr ⟨List.mem_of_getElem? (i := 1206) (by decide +kernel), by decide +kernel⟩
theorem kc_X9_259 : Cond.constantLong RX9 259 (2459) ∈ hs_tbl := mt_870
theorem mt_871 : Cond.constant "java/lang/Integer" (265 : Nat) (1431655765 : Int32) ∈ hs_tbl := List.mem_filter.mpr ⟨List.mem_of_getElem? (i := 603) (by decide +kernel), by decide +kernel⟩
theorem kc_J6_265 : Cond.constant RJ6 265 (1431655765) ∈ hs_tbl := mt_871
theorem mt_872 : Cond.constant "java/lang/Integer" (266 : Nat) (858993459 : Int32) ∈ hs_tbl := List.mem_filter.mpr ⟨List.mem_of_getElem? (i := 604) (by decide +kernel), by decide +kernel⟩
theorem kc_J6_266 : Cond.constant RJ6 266 (858993459) ∈ hs_tbl := mt_872
theorem mt_873 : Cond.constant "java/lang/Integer" (267 : Nat) (252645135 : Int32) ∈ hs_tbl := List.mem_filter.mpr ⟨List.mem_of_getElem? (i := 605) (by decide +kernel), by decide +kernel⟩
theorem kc_J6_267 : Cond.constant RJ6 267 (252645135) ∈ hs_tbl := mt_873
