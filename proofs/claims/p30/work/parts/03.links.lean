/-! the words of the tables that hold on, and each one by its place -/
def gLW : List Cond := lw_tbl.filter goodWord
theorem gLW_tbl : ∀ w ∈ gLW, w ∈ lw_tbl := fun _ h => (List.mem_filter.mp h).1
theorem gLW_good {w : Cond} (h : w ∈ gLW) : goodWord w = true := (List.mem_filter.mp h).2
theorem gLW_in {ws : List Cond} (ps : List Nat) (hp : ws = ps.filterMap (fun i => lw_tbl[i]?)) (hg : ws.all goodWord = true) : ∀ w ∈ ws, w ∈ gLW := by
  intro w hw
  have h1 := List.all_eq_true.mp hg w hw
  rw [hp] at hw
  obtain ⟨i, -, hi⟩ := List.mem_filterMap.mp hw
  exact List.mem_filter.mpr ⟨List.mem_of_getElem? hi, h1⟩
theorem q_se_X3_slot : Cond.selects RX3 yX3_slot yX3_slot ∈ gLW := List.mem_filter.mpr ⟨List.mem_of_getElem? (i := 1) (by decide +kernel), by decide +kernel⟩
theorem q_se_X8_printAnew : Cond.selects RX8 yX8_printAnew yX8_printAnew ∈ gLW := List.mem_filter.mpr ⟨List.mem_of_getElem? (i := 2) (by decide +kernel), by decide +kernel⟩
theorem q_se_X0_gather : Cond.selects RX0 yX0_gather yX0_gather ∈ gLW := List.mem_filter.mpr ⟨List.mem_of_getElem? (i := 3) (by decide +kernel), by decide +kernel⟩
theorem q_se_X0_insert : Cond.selects RX0 yX0_insert yX0_insert ∈ gLW := List.mem_filter.mpr ⟨List.mem_of_getElem? (i := 4) (by decide +kernel), by decide +kernel⟩
theorem q_se_X0_layGroup : Cond.selects RX0 yX0_layGroup yX0_layGroup ∈ gLW := List.mem_filter.mpr ⟨List.mem_of_getElem? (i := 5) (by decide +kernel), by decide +kernel⟩
theorem q_se_X0_beginBand : Cond.selects RX0 yX0_beginBand yX0_beginBand ∈ gLW := List.mem_filter.mpr ⟨List.mem_of_getElem? (i := 6) (by decide +kernel), by decide +kernel⟩
theorem q_se_X0_take : Cond.selects RX0 yX0_take yX0_take ∈ gLW := List.mem_filter.mpr ⟨List.mem_of_getElem? (i := 7) (by decide +kernel), by decide +kernel⟩
theorem q_se_X6_numberByBands : Cond.selects RX6 yX6_numberByBands yX6_numberByBands ∈ gLW := List.mem_filter.mpr ⟨List.mem_of_getElem? (i := 8) (by decide +kernel), by decide +kernel⟩
theorem q_se_X6_number : Cond.selects RX6 yX6_number yX6_number ∈ gLW := List.mem_filter.mpr ⟨List.mem_of_getElem? (i := 9) (by decide +kernel), by decide +kernel⟩
theorem q_se_X6_numberByStrips : Cond.selects RX6 yX6_numberByStrips yX6_numberByStrips ∈ gLW := List.mem_filter.mpr ⟨List.mem_of_getElem? (i := 10) (by decide +kernel), by decide +kernel⟩
theorem q_se_X2_drawInside : Cond.selects RX2 yX2_drawInside yX2_drawInside ∈ gLW := List.mem_filter.mpr ⟨List.mem_of_getElem? (i := 11) (by decide +kernel), by decide +kernel⟩
theorem q_se_X2_drawThroughExit : Cond.selects RX2 yX2_drawThroughExit yX2_drawThroughExit ∈ gLW := List.mem_filter.mpr ⟨List.mem_of_getElem? (i := 12) (by decide +kernel), by decide +kernel⟩
theorem q_se_X8_requireTask : Cond.selects RX8 yX8_requireTask yX8_requireTask ∈ gLW := List.mem_filter.mpr ⟨List.mem_of_getElem? (i := 13) (by decide +kernel), by decide +kernel⟩
theorem q_se_X8_requireArrow : Cond.selects RX8 yX8_requireArrow yX8_requireArrow ∈ gLW := List.mem_filter.mpr ⟨List.mem_of_getElem? (i := 14) (by decide +kernel), by decide +kernel⟩
theorem q_se_X5_dropArrowsOf : Cond.selects RX5 yX5_dropArrowsOf yX5_dropArrowsOf ∈ gLW := List.mem_filter.mpr ⟨List.mem_of_getElem? (i := 15) (by decide +kernel), by decide +kernel⟩
theorem q_se_X8_numberOfTask : Cond.selects RX8 yX8_numberOfTask yX8_numberOfTask ∈ gLW := List.mem_filter.mpr ⟨List.mem_of_getElem? (i := 16) (by decide +kernel), by decide +kernel⟩
theorem q_se_X8_partsOf : Cond.selects RX8 yX8_partsOf yX8_partsOf ∈ gLW := List.mem_filter.mpr ⟨List.mem_of_getElem? (i := 17) (by decide +kernel), by decide +kernel⟩
theorem q_se_X8_numberOfArrow : Cond.selects RX8 yX8_numberOfArrow yX8_numberOfArrow ∈ gLW := List.mem_filter.mpr ⟨List.mem_of_getElem? (i := 18) (by decide +kernel), by decide +kernel⟩
theorem q_se_X8_numberOfPlan : Cond.selects RX8 yX8_numberOfPlan yX8_numberOfPlan ∈ gLW := List.mem_filter.mpr ⟨List.mem_of_getElem? (i := 19) (by decide +kernel), by decide +kernel⟩
theorem q_se_X8_numberOfPart : Cond.selects RX8 yX8_numberOfPart yX8_numberOfPart ∈ gLW := List.mem_filter.mpr ⟨List.mem_of_getElem? (i := 20) (by decide +kernel), by decide +kernel⟩
theorem q_se_X8_requireBand : Cond.selects RX8 yX8_requireBand yX8_requireBand ∈ gLW := List.mem_filter.mpr ⟨List.mem_of_getElem? (i := 21) (by decide +kernel), by decide +kernel⟩
theorem q_se_X8_requireRow : Cond.selects RX8 yX8_requireRow yX8_requireRow ∈ gLW := List.mem_filter.mpr ⟨List.mem_of_getElem? (i := 22) (by decide +kernel), by decide +kernel⟩
theorem q_se_X1_growOnce : Cond.selects RX1 yX1_growOnce yX1_growOnce ∈ gLW := List.mem_filter.mpr ⟨List.mem_of_getElem? (i := 23) (by decide +kernel), by decide +kernel⟩
theorem q_in_L : Cond.initialized RL ∈ gLW := List.mem_filter.mpr ⟨List.mem_of_getElem? (i := 24) (by decide +kernel), by decide +kernel⟩
theorem q_in_X8 : Cond.initialized RX8 ∈ gLW := List.mem_filter.mpr ⟨List.mem_of_getElem? (i := 25) (by decide +kernel), by decide +kernel⟩
theorem q_in_X5 : Cond.initialized RX5 ∈ gLW := List.mem_filter.mpr ⟨List.mem_of_getElem? (i := 26) (by decide +kernel), by decide +kernel⟩
theorem q_in_X4 : Cond.initialized RX4 ∈ gLW := List.mem_filter.mpr ⟨List.mem_of_getElem? (i := 27) (by decide +kernel), by decide +kernel⟩
theorem q_in_X3 : Cond.initialized RX3 ∈ gLW := List.mem_filter.mpr ⟨List.mem_of_getElem? (i := 28) (by decide +kernel), by decide +kernel⟩
theorem q_in_X7 : Cond.initialized RX7 ∈ gLW := List.mem_filter.mpr ⟨List.mem_of_getElem? (i := 29) (by decide +kernel), by decide +kernel⟩
theorem q_in_X1 : Cond.initialized RX1 ∈ gLW := List.mem_filter.mpr ⟨List.mem_of_getElem? (i := 30) (by decide +kernel), by decide +kernel⟩
theorem q_in_X0 : Cond.initialized RX0 ∈ gLW := List.mem_filter.mpr ⟨List.mem_of_getElem? (i := 31) (by decide +kernel), by decide +kernel⟩
theorem q_in_X6 : Cond.initialized RX6 ∈ gLW := List.mem_filter.mpr ⟨List.mem_of_getElem? (i := 32) (by decide +kernel), by decide +kernel⟩
theorem q_in_X2 : Cond.initialized RX2 ∈ gLW := List.mem_filter.mpr ⟨List.mem_of_getElem? (i := 33) (by decide +kernel), by decide +kernel⟩
theorem q_in_java_lang_Throwable : Cond.initialized "java/lang/Throwable" ∈ gLW := List.mem_filter.mpr ⟨List.mem_of_getElem? (i := 34) (by decide +kernel), by decide +kernel⟩
theorem q_in_java_lang_Exception : Cond.initialized "java/lang/Exception" ∈ gLW := List.mem_filter.mpr ⟨List.mem_of_getElem? (i := 35) (by decide +kernel), by decide +kernel⟩
theorem q_in_java_lang_RuntimeException : Cond.initialized "java/lang/RuntimeException" ∈ gLW := List.mem_filter.mpr ⟨List.mem_of_getElem? (i := 36) (by decide +kernel), by decide +kernel⟩
theorem q_in_java_lang_IllegalArgumentException : Cond.initialized "java/lang/IllegalArgumentException" ∈ gLW := List.mem_filter.mpr ⟨List.mem_of_getElem? (i := 37) (by decide +kernel), by decide +kernel⟩
theorem q_in_java_lang_IndexOutOfBoundsException : Cond.initialized "java/lang/IndexOutOfBoundsException" ∈ gLW := List.mem_filter.mpr ⟨List.mem_of_getElem? (i := 38) (by decide +kernel), by decide +kernel⟩
theorem q_in_J9 : Cond.initialized RJ9 ∈ gLW := List.mem_filter.mpr ⟨List.mem_of_getElem? (i := 39) (by decide +kernel), by decide +kernel⟩
theorem q_in_java_lang_IllegalStateException : Cond.initialized "java/lang/IllegalStateException" ∈ gLW := List.mem_filter.mpr ⟨List.mem_of_getElem? (i := 40) (by decide +kernel), by decide +kernel⟩
theorem q_cl_L_67 : Cond.classLink RL 67 RX8 ∈ gLW := List.mem_filter.mpr ⟨List.mem_of_getElem? (i := 41) (by decide +kernel), by decide +kernel⟩
theorem q_ia_X8 : Cond.instantiable RX8 10 ∈ gLW := List.mem_filter.mpr ⟨List.mem_of_getElem? (i := 42) (by decide +kernel), by decide +kernel⟩
theorem q_ml_L_141 : Cond.methodLink RL 141 yX8_init ∈ gLW := List.mem_filter.mpr ⟨List.mem_of_getElem? (i := 43) (by decide +kernel), by decide +kernel⟩
theorem q_im_X8_init : Cond.instanceMethod yX8_init ∈ gLW := List.mem_filter.mpr ⟨List.mem_of_getElem? (i := 44) (by decide +kernel), by decide +kernel⟩
theorem q_co_X8_init : Cond.code yX8_init cX8_init 1 none ∈ gLW := List.mem_filter.mpr ⟨List.mem_of_getElem? (i := 45) (by decide +kernel), by decide +kernel⟩
theorem q_ml_X8_3 : Cond.methodLink RX8 3 objectInit ∈ gLW := List.mem_filter.mpr ⟨List.mem_of_getElem? (i := 46) (by decide +kernel), by decide +kernel⟩
theorem q_im_obj : Cond.instanceMethod objectInit ∈ gLW := List.mem_filter.mpr ⟨List.mem_of_getElem? (i := 47) (by decide +kernel), by decide +kernel⟩
theorem q_co_obj : Cond.code objectInit ⟨#[0xb1]⟩ 1 none ∈ gLW := List.mem_filter.mpr ⟨List.mem_of_getElem? (i := 48) (by decide +kernel), by decide +kernel⟩
theorem q_cl_X8_9 : Cond.classLink RX8 9 RX5 ∈ gLW := List.mem_filter.mpr ⟨List.mem_of_getElem? (i := 49) (by decide +kernel), by decide +kernel⟩
theorem q_ia_X5 : Cond.instantiable RX5 8 ∈ gLW := List.mem_filter.mpr ⟨List.mem_of_getElem? (i := 50) (by decide +kernel), by decide +kernel⟩
theorem q_ml_X8_11 : Cond.methodLink RX8 11 yX5_init ∈ gLW := List.mem_filter.mpr ⟨List.mem_of_getElem? (i := 51) (by decide +kernel), by decide +kernel⟩
theorem q_im_X5_init : Cond.instanceMethod yX5_init ∈ gLW := List.mem_filter.mpr ⟨List.mem_of_getElem? (i := 52) (by decide +kernel), by decide +kernel⟩
theorem q_co_X5_init : Cond.code yX5_init cX5_init 2 none ∈ gLW := List.mem_filter.mpr ⟨List.mem_of_getElem? (i := 53) (by decide +kernel), by decide +kernel⟩
theorem q_ml_X5_3 : Cond.methodLink RX5 3 objectInit ∈ gLW := List.mem_filter.mpr ⟨List.mem_of_getElem? (i := 54) (by decide +kernel), by decide +kernel⟩
theorem q_cl_X5_9 : Cond.classLink RX5 9 RX4 ∈ gLW := List.mem_filter.mpr ⟨List.mem_of_getElem? (i := 55) (by decide +kernel), by decide +kernel⟩
theorem q_ia_X4 : Cond.instantiable RX4 1 ∈ gLW := List.mem_filter.mpr ⟨List.mem_of_getElem? (i := 56) (by decide +kernel), by decide +kernel⟩
theorem q_ml_X5_11 : Cond.methodLink RX5 11 yX4_init ∈ gLW := List.mem_filter.mpr ⟨List.mem_of_getElem? (i := 57) (by decide +kernel), by decide +kernel⟩
theorem q_im_X4_init : Cond.instanceMethod yX4_init ∈ gLW := List.mem_filter.mpr ⟨List.mem_of_getElem? (i := 58) (by decide +kernel), by decide +kernel⟩
theorem q_co_X4_init : Cond.code yX4_init cX4_init 2 none ∈ gLW := List.mem_filter.mpr ⟨List.mem_of_getElem? (i := 59) (by decide +kernel), by decide +kernel⟩
theorem q_ml_X4_3 : Cond.methodLink RX4 3 objectInit ∈ gLW := List.mem_filter.mpr ⟨List.mem_of_getElem? (i := 60) (by decide +kernel), by decide +kernel⟩
theorem q_fl_X4_9 : Cond.fieldLink RX4 9 "TaskSheets$Numbers" "places" "[I" ∈ gLW := List.mem_filter.mpr ⟨List.mem_of_getElem? (i := 61) (by decide +kernel), by decide +kernel⟩
theorem q_ac_int : Cond.arrayClass Jvm.ClassFile.FieldType.int ∈ gLW := List.mem_filter.mpr ⟨List.mem_of_getElem? (i := 65) (by decide +kernel), by decide +kernel⟩
theorem q_ml_X5_39 : Cond.methodLink RX5 39 yX4_put ∈ gLW := List.mem_filter.mpr ⟨List.mem_of_getElem? (i := 68) (by decide +kernel), by decide +kernel⟩
theorem q_im_X4_put : Cond.instanceMethod yX4_put ∈ gLW := List.mem_filter.mpr ⟨List.mem_of_getElem? (i := 69) (by decide +kernel), by decide +kernel⟩
theorem q_se_X4_put : Cond.selects RX4 yX4_put yX4_put ∈ gLW := List.mem_filter.mpr ⟨List.mem_of_getElem? (i := 70) (by decide +kernel), by decide +kernel⟩
theorem q_co_X4_put : Cond.code yX4_put cX4_put 3 none ∈ gLW := List.mem_filter.mpr ⟨List.mem_of_getElem? (i := 71) (by decide +kernel), by decide +kernel⟩
theorem q_fl_X5_14 : Cond.fieldLink RX5 14 "TaskSheets$Plan" "settings" "LTaskSheets$Numbers;" ∈ gLW := List.mem_filter.mpr ⟨List.mem_of_getElem? (i := 72) (by decide +kernel), by decide +kernel⟩
theorem q_fl_X5_20 : Cond.fieldLink RX5 20 "TaskSheets$Plan" "groups" "LTaskSheets$Numbers;" ∈ gLW := List.mem_filter.mpr ⟨List.mem_of_getElem? (i := 73) (by decide +kernel), by decide +kernel⟩
theorem q_fl_X5_23 : Cond.fieldLink RX5 23 "TaskSheets$Plan" "firsts" "LTaskSheets$Numbers;" ∈ gLW := List.mem_filter.mpr ⟨List.mem_of_getElem? (i := 74) (by decide +kernel), by decide +kernel⟩
theorem q_fl_X5_26 : Cond.fieldLink RX5 26 "TaskSheets$Plan" "lengths" "LTaskSheets$Numbers;" ∈ gLW := List.mem_filter.mpr ⟨List.mem_of_getElem? (i := 75) (by decide +kernel), by decide +kernel⟩
theorem q_fl_X5_29 : Cond.fieldLink RX5 29 "TaskSheets$Plan" "froms" "LTaskSheets$Numbers;" ∈ gLW := List.mem_filter.mpr ⟨List.mem_of_getElem? (i := 76) (by decide +kernel), by decide +kernel⟩
theorem q_fl_X5_32 : Cond.fieldLink RX5 32 "TaskSheets$Plan" "tos" "LTaskSheets$Numbers;" ∈ gLW := List.mem_filter.mpr ⟨List.mem_of_getElem? (i := 77) (by decide +kernel), by decide +kernel⟩
theorem q_fl_X5_47 : Cond.fieldLink RX5 47 "TaskSheets$Plan" "tasks" "I" ∈ gLW := List.mem_filter.mpr ⟨List.mem_of_getElem? (i := 78) (by decide +kernel), by decide +kernel⟩
theorem q_fl_X5_51 : Cond.fieldLink RX5 51 "TaskSheets$Plan" "arrows" "I" ∈ gLW := List.mem_filter.mpr ⟨List.mem_of_getElem? (i := 79) (by decide +kernel), by decide +kernel⟩
theorem q_cl_X8_19 : Cond.classLink RX8 19 RX3 ∈ gLW := List.mem_filter.mpr ⟨List.mem_of_getElem? (i := 97) (by decide +kernel), by decide +kernel⟩
theorem q_ia_X3 : Cond.instantiable RX3 3 ∈ gLW := List.mem_filter.mpr ⟨List.mem_of_getElem? (i := 98) (by decide +kernel), by decide +kernel⟩
theorem q_ml_X8_21 : Cond.methodLink RX8 21 yX3_init ∈ gLW := List.mem_filter.mpr ⟨List.mem_of_getElem? (i := 99) (by decide +kernel), by decide +kernel⟩
theorem q_im_X3_init : Cond.instanceMethod yX3_init ∈ gLW := List.mem_filter.mpr ⟨List.mem_of_getElem? (i := 100) (by decide +kernel), by decide +kernel⟩
theorem q_co_X3_init : Cond.code yX3_init cX3_init 2 none ∈ gLW := List.mem_filter.mpr ⟨List.mem_of_getElem? (i := 101) (by decide +kernel), by decide +kernel⟩
theorem q_ml_X3_3 : Cond.methodLink RX3 3 objectInit ∈ gLW := List.mem_filter.mpr ⟨List.mem_of_getElem? (i := 102) (by decide +kernel), by decide +kernel⟩
theorem q_cl_X3_9 : Cond.classLink RX3 9 RX5 ∈ gLW := List.mem_filter.mpr ⟨List.mem_of_getElem? (i := 103) (by decide +kernel), by decide +kernel⟩
theorem q_ml_X3_17 : Cond.methodLink RX3 17 yX5_init ∈ gLW := List.mem_filter.mpr ⟨List.mem_of_getElem? (i := 105) (by decide +kernel), by decide +kernel⟩
theorem q_fl_X3_11 : Cond.fieldLink RX3 11 "TaskSheets$History" "saved" "[LTaskSheets$Plan;" ∈ gLW := List.mem_filter.mpr ⟨List.mem_of_getElem? (i := 106) (by decide +kernel), by decide +kernel⟩
theorem q_fl_X3_22 : Cond.fieldLink RX3 22 "TaskSheets$History" "next" "I" ∈ gLW := List.mem_filter.mpr ⟨List.mem_of_getElem? (i := 107) (by decide +kernel), by decide +kernel⟩
theorem q_fl_X3_18 : Cond.fieldLink RX3 18 "TaskSheets$History" "count" "I" ∈ gLW := List.mem_filter.mpr ⟨List.mem_of_getElem? (i := 108) (by decide +kernel), by decide +kernel⟩
theorem q_cl_X8_26 : Cond.classLink RX8 26 RX7 ∈ gLW := List.mem_filter.mpr ⟨List.mem_of_getElem? (i := 116) (by decide +kernel), by decide +kernel⟩
theorem q_ia_X7 : Cond.instantiable RX7 5 ∈ gLW := List.mem_filter.mpr ⟨List.mem_of_getElem? (i := 117) (by decide +kernel), by decide +kernel⟩
theorem q_im_X7_init : Cond.instanceMethod yX7_init ∈ gLW := List.mem_filter.mpr ⟨List.mem_of_getElem? (i := 119) (by decide +kernel), by decide +kernel⟩
theorem q_co_X7_init : Cond.code yX7_init cX7_init 1 none ∈ gLW := List.mem_filter.mpr ⟨List.mem_of_getElem? (i := 120) (by decide +kernel), by decide +kernel⟩
theorem q_ml_X7_3 : Cond.methodLink RX7 3 objectInit ∈ gLW := List.mem_filter.mpr ⟨List.mem_of_getElem? (i := 121) (by decide +kernel), by decide +kernel⟩
theorem q_cl_X7_9 : Cond.classLink RX7 9 RX4 ∈ gLW := List.mem_filter.mpr ⟨List.mem_of_getElem? (i := 122) (by decide +kernel), by decide +kernel⟩
theorem q_ml_X7_11 : Cond.methodLink RX7 11 yX4_init ∈ gLW := List.mem_filter.mpr ⟨List.mem_of_getElem? (i := 123) (by decide +kernel), by decide +kernel⟩
theorem q_fl_X7_14 : Cond.fieldLink RX7 14 "TaskSheets$TaskText" "bytes" "LTaskSheets$Numbers;" ∈ gLW := List.mem_filter.mpr ⟨List.mem_of_getElem? (i := 124) (by decide +kernel), by decide +kernel⟩
theorem q_cl_X8_33 : Cond.classLink RX8 33 RX1 ∈ gLW := List.mem_filter.mpr ⟨List.mem_of_getElem? (i := 136) (by decide +kernel), by decide +kernel⟩
theorem q_ia_X1 : Cond.instantiable RX1 1 ∈ gLW := List.mem_filter.mpr ⟨List.mem_of_getElem? (i := 137) (by decide +kernel), by decide +kernel⟩
theorem q_im_X1_init : Cond.instanceMethod yX1_init ∈ gLW := List.mem_filter.mpr ⟨List.mem_of_getElem? (i := 139) (by decide +kernel), by decide +kernel⟩
theorem q_co_X1_init : Cond.code yX1_init cX1_init 1 none ∈ gLW := List.mem_filter.mpr ⟨List.mem_of_getElem? (i := 140) (by decide +kernel), by decide +kernel⟩
theorem q_ml_X1_3 : Cond.methodLink RX1 3 objectInit ∈ gLW := List.mem_filter.mpr ⟨List.mem_of_getElem? (i := 141) (by decide +kernel), by decide +kernel⟩
theorem q_cl_X1_9 : Cond.classLink RX1 9 RX4 ∈ gLW := List.mem_filter.mpr ⟨List.mem_of_getElem? (i := 142) (by decide +kernel), by decide +kernel⟩
theorem q_ml_X1_11 : Cond.methodLink RX1 11 yX4_init ∈ gLW := List.mem_filter.mpr ⟨List.mem_of_getElem? (i := 143) (by decide +kernel), by decide +kernel⟩
theorem q_fl_X1_14 : Cond.fieldLink RX1 14 "TaskSheets$Chains" "longestTo" "LTaskSheets$Numbers;" ∈ gLW := List.mem_filter.mpr ⟨List.mem_of_getElem? (i := 144) (by decide +kernel), by decide +kernel⟩
theorem q_cl_X8_40 : Cond.classLink RX8 40 RX0 ∈ gLW := List.mem_filter.mpr ⟨List.mem_of_getElem? (i := 148) (by decide +kernel), by decide +kernel⟩
theorem q_ia_X0 : Cond.instantiable RX0 8 ∈ gLW := List.mem_filter.mpr ⟨List.mem_of_getElem? (i := 149) (by decide +kernel), by decide +kernel⟩
theorem q_im_X0_init : Cond.instanceMethod yX0_init ∈ gLW := List.mem_filter.mpr ⟨List.mem_of_getElem? (i := 151) (by decide +kernel), by decide +kernel⟩
theorem q_co_X0_init : Cond.code yX0_init cX0_init 1 none ∈ gLW := List.mem_filter.mpr ⟨List.mem_of_getElem? (i := 152) (by decide +kernel), by decide +kernel⟩
theorem q_ml_X0_3 : Cond.methodLink RX0 3 objectInit ∈ gLW := List.mem_filter.mpr ⟨List.mem_of_getElem? (i := 153) (by decide +kernel), by decide +kernel⟩
theorem q_cl_X0_9 : Cond.classLink RX0 9 RX4 ∈ gLW := List.mem_filter.mpr ⟨List.mem_of_getElem? (i := 154) (by decide +kernel), by decide +kernel⟩
theorem q_ml_X0_11 : Cond.methodLink RX0 11 yX4_init ∈ gLW := List.mem_filter.mpr ⟨List.mem_of_getElem? (i := 155) (by decide +kernel), by decide +kernel⟩
theorem q_fl_X0_14 : Cond.fieldLink RX0 14 "TaskSheets$Bands" "contents" "LTaskSheets$Numbers;" ∈ gLW := List.mem_filter.mpr ⟨List.mem_of_getElem? (i := 156) (by decide +kernel), by decide +kernel⟩
theorem q_fl_X0_20 : Cond.fieldLink RX0 20 "TaskSheets$Bands" "bandOfTask" "LTaskSheets$Numbers;" ∈ gLW := List.mem_filter.mpr ⟨List.mem_of_getElem? (i := 157) (by decide +kernel), by decide +kernel⟩
theorem q_fl_X0_23 : Cond.fieldLink RX0 23 "TaskSheets$Bands" "rowOfTask" "LTaskSheets$Numbers;" ∈ gLW := List.mem_filter.mpr ⟨List.mem_of_getElem? (i := 158) (by decide +kernel), by decide +kernel⟩
theorem q_fl_X0_26 : Cond.fieldLink RX0 26 "TaskSheets$Bands" "members" "LTaskSheets$Numbers;" ∈ gLW := List.mem_filter.mpr ⟨List.mem_of_getElem? (i := 159) (by decide +kernel), by decide +kernel⟩
theorem q_fl_X0_47 : Cond.fieldLink RX0 47 "TaskSheets$Bands" "memberCount" "I" ∈ gLW := List.mem_filter.mpr ⟨List.mem_of_getElem? (i := 160) (by decide +kernel), by decide +kernel⟩
theorem q_fl_X0_37 : Cond.fieldLink RX0 37 "TaskSheets$Bands" "rows" "I" ∈ gLW := List.mem_filter.mpr ⟨List.mem_of_getElem? (i := 161) (by decide +kernel), by decide +kernel⟩
theorem q_fl_X0_29 : Cond.fieldLink RX0 29 "TaskSheets$Bands" "count" "I" ∈ gLW := List.mem_filter.mpr ⟨List.mem_of_getElem? (i := 162) (by decide +kernel), by decide +kernel⟩
theorem q_fl_X0_40 : Cond.fieldLink RX0 40 "TaskSheets$Bands" "free" "I" ∈ gLW := List.mem_filter.mpr ⟨List.mem_of_getElem? (i := 163) (by decide +kernel), by decide +kernel⟩
theorem q_cl_X8_47 : Cond.classLink RX8 47 RX6 ∈ gLW := List.mem_filter.mpr ⟨List.mem_of_getElem? (i := 181) (by decide +kernel), by decide +kernel⟩
theorem q_ia_X6 : Cond.instantiable RX6 5 ∈ gLW := List.mem_filter.mpr ⟨List.mem_of_getElem? (i := 182) (by decide +kernel), by decide +kernel⟩
theorem q_im_X6_init : Cond.instanceMethod yX6_init ∈ gLW := List.mem_filter.mpr ⟨List.mem_of_getElem? (i := 184) (by decide +kernel), by decide +kernel⟩
theorem q_co_X6_init : Cond.code yX6_init cX6_init 1 none ∈ gLW := List.mem_filter.mpr ⟨List.mem_of_getElem? (i := 185) (by decide +kernel), by decide +kernel⟩
theorem q_ml_X6_3 : Cond.methodLink RX6 3 objectInit ∈ gLW := List.mem_filter.mpr ⟨List.mem_of_getElem? (i := 186) (by decide +kernel), by decide +kernel⟩
theorem q_cl_X6_9 : Cond.classLink RX6 9 RX4 ∈ gLW := List.mem_filter.mpr ⟨List.mem_of_getElem? (i := 187) (by decide +kernel), by decide +kernel⟩
theorem q_ml_X6_11 : Cond.methodLink RX6 11 yX4_init ∈ gLW := List.mem_filter.mpr ⟨List.mem_of_getElem? (i := 188) (by decide +kernel), by decide +kernel⟩
theorem q_fl_X6_14 : Cond.fieldLink RX6 14 "TaskSheets$Sheets" "partsOnSpot" "LTaskSheets$Numbers;" ∈ gLW := List.mem_filter.mpr ⟨List.mem_of_getElem? (i := 189) (by decide +kernel), by decide +kernel⟩
theorem q_fl_X6_20 : Cond.fieldLink RX6 20 "TaskSheets$Sheets" "sheetOnSpot" "LTaskSheets$Numbers;" ∈ gLW := List.mem_filter.mpr ⟨List.mem_of_getElem? (i := 190) (by decide +kernel), by decide +kernel⟩
theorem q_fl_X6_23 : Cond.fieldLink RX6 23 "TaskSheets$Sheets" "bandOfSheet" "LTaskSheets$Numbers;" ∈ gLW := List.mem_filter.mpr ⟨List.mem_of_getElem? (i := 191) (by decide +kernel), by decide +kernel⟩
theorem q_fl_X6_26 : Cond.fieldLink RX6 26 "TaskSheets$Sheets" "stripOfSheet" "LTaskSheets$Numbers;" ∈ gLW := List.mem_filter.mpr ⟨List.mem_of_getElem? (i := 192) (by decide +kernel), by decide +kernel⟩
theorem q_fl_X6_29 : Cond.fieldLink RX6 29 "TaskSheets$Sheets" "count" "I" ∈ gLW := List.mem_filter.mpr ⟨List.mem_of_getElem? (i := 193) (by decide +kernel), by decide +kernel⟩
theorem q_cl_X8_54 : Cond.classLink RX8 54 RX2 ∈ gLW := List.mem_filter.mpr ⟨List.mem_of_getElem? (i := 205) (by decide +kernel), by decide +kernel⟩
theorem q_ia_X2 : Cond.instantiable RX2 7 ∈ gLW := List.mem_filter.mpr ⟨List.mem_of_getElem? (i := 206) (by decide +kernel), by decide +kernel⟩
theorem q_im_X2_init : Cond.instanceMethod yX2_init ∈ gLW := List.mem_filter.mpr ⟨List.mem_of_getElem? (i := 208) (by decide +kernel), by decide +kernel⟩
theorem q_co_X2_init : Cond.code yX2_init cX2_init 1 none ∈ gLW := List.mem_filter.mpr ⟨List.mem_of_getElem? (i := 209) (by decide +kernel), by decide +kernel⟩
theorem q_ml_X2_3 : Cond.methodLink RX2 3 objectInit ∈ gLW := List.mem_filter.mpr ⟨List.mem_of_getElem? (i := 210) (by decide +kernel), by decide +kernel⟩
theorem q_cl_X2_9 : Cond.classLink RX2 9 RX4 ∈ gLW := List.mem_filter.mpr ⟨List.mem_of_getElem? (i := 211) (by decide +kernel), by decide +kernel⟩
theorem q_ml_X2_11 : Cond.methodLink RX2 11 yX4_init ∈ gLW := List.mem_filter.mpr ⟨List.mem_of_getElem? (i := 212) (by decide +kernel), by decide +kernel⟩
theorem q_fl_X2_14 : Cond.fieldLink RX2 14 "TaskSheets$Exits" "leaveSheets" "LTaskSheets$Numbers;" ∈ gLW := List.mem_filter.mpr ⟨List.mem_of_getElem? (i := 213) (by decide +kernel), by decide +kernel⟩
theorem q_fl_X2_20 : Cond.fieldLink RX2 20 "TaskSheets$Exits" "arriveSheets" "LTaskSheets$Numbers;" ∈ gLW := List.mem_filter.mpr ⟨List.mem_of_getElem? (i := 214) (by decide +kernel), by decide +kernel⟩
theorem q_fl_X2_23 : Cond.fieldLink RX2 23 "TaskSheets$Exits" "exitOfArrow" "LTaskSheets$Numbers;" ∈ gLW := List.mem_filter.mpr ⟨List.mem_of_getElem? (i := 215) (by decide +kernel), by decide +kernel⟩
theorem q_fl_X2_26 : Cond.fieldLink RX2 26 "TaskSheets$Exits" "arrowOfExit" "LTaskSheets$Numbers;" ∈ gLW := List.mem_filter.mpr ⟨List.mem_of_getElem? (i := 216) (by decide +kernel), by decide +kernel⟩
theorem q_fl_X2_29 : Cond.fieldLink RX2 29 "TaskSheets$Exits" "exitsOfSheet" "LTaskSheets$Numbers;" ∈ gLW := List.mem_filter.mpr ⟨List.mem_of_getElem? (i := 217) (by decide +kernel), by decide +kernel⟩
theorem q_fl_X2_32 : Cond.fieldLink RX2 32 "TaskSheets$Exits" "drawnOfSheet" "LTaskSheets$Numbers;" ∈ gLW := List.mem_filter.mpr ⟨List.mem_of_getElem? (i := 218) (by decide +kernel), by decide +kernel⟩
theorem q_fl_X2_35 : Cond.fieldLink RX2 35 "TaskSheets$Exits" "count" "I" ∈ gLW := List.mem_filter.mpr ⟨List.mem_of_getElem? (i := 219) (by decide +kernel), by decide +kernel⟩
theorem q_fl_X8_12 : Cond.fieldLink RX8 12 "TaskSheets" "plan" "LTaskSheets$Plan;" ∈ gLW := List.mem_filter.mpr ⟨List.mem_of_getElem? (i := 235) (by decide +kernel), by decide +kernel⟩
theorem q_fl_X8_16 : Cond.fieldLink RX8 16 "TaskSheets" "told" "LTaskSheets$Plan;" ∈ gLW := List.mem_filter.mpr ⟨List.mem_of_getElem? (i := 236) (by decide +kernel), by decide +kernel⟩
theorem q_fl_X8_22 : Cond.fieldLink RX8 22 "TaskSheets" "history" "LTaskSheets$History;" ∈ gLW := List.mem_filter.mpr ⟨List.mem_of_getElem? (i := 237) (by decide +kernel), by decide +kernel⟩
theorem q_fl_X8_29 : Cond.fieldLink RX8 29 "TaskSheets" "text" "LTaskSheets$TaskText;" ∈ gLW := List.mem_filter.mpr ⟨List.mem_of_getElem? (i := 238) (by decide +kernel), by decide +kernel⟩
theorem q_fl_X8_36 : Cond.fieldLink RX8 36 "TaskSheets" "chains" "LTaskSheets$Chains;" ∈ gLW := List.mem_filter.mpr ⟨List.mem_of_getElem? (i := 239) (by decide +kernel), by decide +kernel⟩
theorem q_fl_X8_43 : Cond.fieldLink RX8 43 "TaskSheets" "bands" "LTaskSheets$Bands;" ∈ gLW := List.mem_filter.mpr ⟨List.mem_of_getElem? (i := 240) (by decide +kernel), by decide +kernel⟩
theorem q_fl_X8_50 : Cond.fieldLink RX8 50 "TaskSheets" "sheets" "LTaskSheets$Sheets;" ∈ gLW := List.mem_filter.mpr ⟨List.mem_of_getElem? (i := 241) (by decide +kernel), by decide +kernel⟩
theorem q_fl_X8_57 : Cond.fieldLink RX8 57 "TaskSheets" "exits" "LTaskSheets$Exits;" ∈ gLW := List.mem_filter.mpr ⟨List.mem_of_getElem? (i := 242) (by decide +kernel), by decide +kernel⟩
theorem q_fl_X8_61 : Cond.fieldLink RX8 61 "TaskSheets" "trialBands" "LTaskSheets$Bands;" ∈ gLW := List.mem_filter.mpr ⟨List.mem_of_getElem? (i := 243) (by decide +kernel), by decide +kernel⟩
theorem q_fl_X8_64 : Cond.fieldLink RX8 64 "TaskSheets" "trialSheets" "LTaskSheets$Sheets;" ∈ gLW := List.mem_filter.mpr ⟨List.mem_of_getElem? (i := 244) (by decide +kernel), by decide +kernel⟩
theorem q_ml_L_150 : Cond.methodLink RL 150 yL_cell ∈ gLW := List.mem_filter.mpr ⟨List.mem_of_getElem? (i := 266) (by decide +kernel), by decide +kernel⟩
theorem q_st_L_cell : Cond.static yL_cell ∈ gLW := List.mem_filter.mpr ⟨List.mem_of_getElem? (i := 267) (by decide +kernel), by decide +kernel⟩
theorem q_co_L_cell : Cond.code yL_cell cL_cell 2 (some (Jvm.ClassFile.FieldType.int)) ∈ gLW := List.mem_filter.mpr ⟨List.mem_of_getElem? (i := 268) (by decide +kernel), by decide +kernel⟩
theorem q_ml_L_26 : Cond.methodLink RL 26 yL_low ∈ gLW := List.mem_filter.mpr ⟨List.mem_of_getElem? (i := 270) (by decide +kernel), by decide +kernel⟩
theorem q_st_L_low : Cond.static yL_low ∈ gLW := List.mem_filter.mpr ⟨List.mem_of_getElem? (i := 271) (by decide +kernel), by decide +kernel⟩
theorem q_co_L_low : Cond.code yL_low cL_low 2 (some (Jvm.ClassFile.FieldType.int)) ∈ gLW := List.mem_filter.mpr ⟨List.mem_of_getElem? (i := 272) (by decide +kernel), by decide +kernel⟩
theorem q_ml_L_154 : Cond.methodLink RL 154 yL_acts ∈ gLW := List.mem_filter.mpr ⟨List.mem_of_getElem? (i := 274) (by decide +kernel), by decide +kernel⟩
theorem q_st_L_acts : Cond.static yL_acts ∈ gLW := List.mem_filter.mpr ⟨List.mem_of_getElem? (i := 275) (by decide +kernel), by decide +kernel⟩
set_option maxRecDepth 100000 in
theorem q_co_L_acts : Cond.code yL_acts cL_acts 18 (some (Jvm.ClassFile.FieldType.boolean)) ∈ gLW := List.mem_filter.mpr ⟨List.mem_of_getElem? (i := 276) (by rfl), by decide +kernel⟩
theorem q_ml_L_30 : Cond.methodLink RL 30 yL_adds ∈ gLW := List.mem_filter.mpr ⟨List.mem_of_getElem? (i := 278) (by decide +kernel), by decide +kernel⟩
theorem q_st_L_adds : Cond.static yL_adds ∈ gLW := List.mem_filter.mpr ⟨List.mem_of_getElem? (i := 279) (by decide +kernel), by decide +kernel⟩
theorem q_cw_L_adds : Cond.codeWith yL_adds cL_adds 5 (some (Jvm.ClassFile.FieldType.int)) [((0 : Nat), (7 : Nat), (8 : Nat), (71 : Nat)), ((0 : Nat), (7 : Nat), (13 : Nat), (77 : Nat))] ∈ gLW := List.mem_filter.mpr ⟨List.mem_of_getElem? (i := 280) (by decide +kernel), by decide +kernel⟩
theorem q_cl_L_71 : Cond.classLink RL 71 "java/lang/IllegalArgumentException" ∈ gLW := List.mem_filter.mpr ⟨List.mem_of_getElem? (i := 281) (by decide +kernel), by decide +kernel⟩
theorem q_cl_L_77 : Cond.classLink RL 77 "java/lang/IllegalStateException" ∈ gLW := List.mem_filter.mpr ⟨List.mem_of_getElem? (i := 282) (by decide +kernel), by decide +kernel⟩
theorem q_ml_L_73 : Cond.methodLink RL 73 yX8_addTask ∈ gLW := List.mem_filter.mpr ⟨List.mem_of_getElem? (i := 283) (by decide +kernel), by decide +kernel⟩
theorem q_im_X8_addTask : Cond.instanceMethod yX8_addTask ∈ gLW := List.mem_filter.mpr ⟨List.mem_of_getElem? (i := 284) (by decide +kernel), by decide +kernel⟩
theorem q_se_X8_addTask : Cond.selects RX8 yX8_addTask yX8_addTask ∈ gLW := List.mem_filter.mpr ⟨List.mem_of_getElem? (i := 285) (by decide +kernel), by decide +kernel⟩
theorem q_co_X8_addTask : Cond.code yX8_addTask cX8_addTask 5 (some (Jvm.ClassFile.FieldType.int)) ∈ gLW := List.mem_filter.mpr ⟨List.mem_of_getElem? (i := 286) (by decide +kernel), by decide +kernel⟩
theorem q_ml_X8_98 : Cond.methodLink RX8 98 yX8_isBar ∈ gLW := List.mem_filter.mpr ⟨List.mem_of_getElem? (i := 287) (by decide +kernel), by decide +kernel⟩
theorem q_st_X8_isBar : Cond.static yX8_isBar ∈ gLW := List.mem_filter.mpr ⟨List.mem_of_getElem? (i := 288) (by decide +kernel), by decide +kernel⟩
theorem q_co_X8_isBar : Cond.code yX8_isBar cX8_isBar 2 (some (Jvm.ClassFile.FieldType.boolean)) ∈ gLW := List.mem_filter.mpr ⟨List.mem_of_getElem? (i := 289) (by decide +kernel), by decide +kernel⟩
theorem q_cl_X8_71 : Cond.classLink RX8 71 "java/lang/IllegalArgumentException" ∈ gLW := List.mem_filter.mpr ⟨List.mem_of_getElem? (i := 290) (by decide +kernel), by decide +kernel⟩
theorem q_ia_java_lang_IllegalArgumentException : Cond.instantiable "java/lang/IllegalArgumentException" 6 ∈ gLW := List.mem_filter.mpr ⟨List.mem_of_getElem? (i := 291) (by decide +kernel), by decide +kernel⟩
theorem q_se_java_lang_Throwable_fillInStackTrace__I_Ljava_lang_Throwable_ : Cond.selects "java/lang/IllegalArgumentException" ⟨"java/lang/Throwable", "fillInStackTrace", "(I)Ljava/lang/Throwable;"⟩ ⟨"java/lang/Throwable", "fillInStackTrace", "(I)Ljava/lang/Throwable;"⟩ ∈ gLW := List.mem_filter.mpr ⟨List.mem_of_getElem? (i := 299) (by decide +kernel), by decide +kernel⟩
theorem q_se_java_lang_Throwable_fillInStackTrace__Ljava_lang_Throwable_ : Cond.selects "java/lang/IllegalArgumentException" ⟨"java/lang/Throwable", "fillInStackTrace", "()Ljava/lang/Throwable;"⟩ ⟨"java/lang/Throwable", "fillInStackTrace", "()Ljava/lang/Throwable;"⟩ ∈ gLW := List.mem_filter.mpr ⟨List.mem_of_getElem? (i := 300) (by decide +kernel), by decide +kernel⟩
theorem q_fl_java_lang_Throwable_198 : Cond.fieldLink "java/lang/Throwable" 198 "java/lang/Throwable" "backtrace" "Ljava/lang/Object;" ∈ gLW := List.mem_filter.mpr ⟨List.mem_of_getElem? (i := 311) (by decide +kernel), by decide +kernel⟩
theorem q_im_java_lang_Throwable__init___V : Cond.instanceMethod ⟨"java/lang/Throwable", "<init>", "()V"⟩ ∈ gLW := List.mem_filter.mpr ⟨List.mem_of_getElem? (i := 313) (by decide +kernel), by decide +kernel⟩
theorem q_co_java_lang_Throwable__init___V : Cond.code ⟨"java/lang/Throwable", "<init>", "()V"⟩ prog_19_method_1_code 1 none ∈ gLW := List.mem_filter.mpr ⟨List.mem_of_getElem? (i := 314) (by decide +kernel), by decide +kernel⟩
theorem q_ml_java_lang_Throwable_1 : Cond.methodLink "java/lang/Throwable" 1 objectInit ∈ gLW := List.mem_filter.mpr ⟨List.mem_of_getElem? (i := 315) (by decide +kernel), by decide +kernel⟩
theorem q_fl_java_lang_Throwable_13 : Cond.fieldLink "java/lang/Throwable" 13 "java/lang/Throwable" "UNASSIGNED_STACK" "[Ljava/lang/StackTraceElement;" ∈ gLW := List.mem_filter.mpr ⟨List.mem_of_getElem? (i := 316) (by decide +kernel), by decide +kernel⟩
theorem q_fl_java_lang_Throwable_20 : Cond.fieldLink "java/lang/Throwable" 20 "java/lang/Throwable" "SUPPRESSED_SENTINEL" "Ljava/util/List;" ∈ gLW := List.mem_filter.mpr ⟨List.mem_of_getElem? (i := 318) (by decide +kernel), by decide +kernel⟩
theorem q_ml_java_lang_Throwable_27 : Cond.methodLink "java/lang/Throwable" 27 ⟨"java/lang/Throwable", "fillInStackTrace", "()Ljava/lang/Throwable;"⟩ ∈ gLW := List.mem_filter.mpr ⟨List.mem_of_getElem? (i := 320) (by decide +kernel), by decide +kernel⟩
theorem q_im_java_lang_Throwable_fillInStackTrace__Ljava_lang_Throwable_ : Cond.instanceMethod ⟨"java/lang/Throwable", "fillInStackTrace", "()Ljava/lang/Throwable;"⟩ ∈ gLW := List.mem_filter.mpr ⟨List.mem_of_getElem? (i := 321) (by decide +kernel), by decide +kernel⟩
theorem q_ml_java_lang_Throwable_202 : Cond.methodLink "java/lang/Throwable" 202 ⟨"java/lang/Throwable", "fillInStackTrace", "(I)Ljava/lang/Throwable;"⟩ ∈ gLW := List.mem_filter.mpr ⟨List.mem_of_getElem? (i := 326) (by decide +kernel), by decide +kernel⟩
theorem q_im_java_lang_Throwable_fillInStackTrace__I_Ljava_lang_Throwable_ : Cond.instanceMethod ⟨"java/lang/Throwable", "fillInStackTrace", "(I)Ljava/lang/Throwable;"⟩ ∈ gLW := List.mem_filter.mpr ⟨List.mem_of_getElem? (i := 328) (by decide +kernel), by decide +kernel⟩
theorem q_ia_java_lang_Throwable : Cond.instantiable "java/lang/Throwable" 6 ∈ gLW := List.mem_filter.mpr ⟨List.mem_of_getElem? (i := 329) (by decide +kernel), by decide +kernel⟩
theorem q_ml_X8_75 : Cond.methodLink RX8 75 ⟨"java/lang/IllegalArgumentException", "<init>", "(Ljava/lang/String;)V"⟩ ∈ gLW := List.mem_filter.mpr ⟨List.mem_of_getElem? (i := 332) (by decide +kernel), by decide +kernel⟩
theorem q_im_java_lang_IllegalArgumentException__init___Ljava_lang_String_V : Cond.instanceMethod ⟨"java/lang/IllegalArgumentException", "<init>", "(Ljava/lang/String;)V"⟩ ∈ gLW := List.mem_filter.mpr ⟨List.mem_of_getElem? (i := 333) (by decide +kernel), by decide +kernel⟩
theorem q_co_java_lang_IllegalArgumentException__init___Ljava_lang_String_V : Cond.code ⟨"java/lang/IllegalArgumentException", "<init>", "(Ljava/lang/String;)V"⟩ prog_13_method_2_code 2 none ∈ gLW := List.mem_filter.mpr ⟨List.mem_of_getElem? (i := 334) (by decide +kernel), by decide +kernel⟩
theorem q_ml_java_lang_IllegalArgumentException_7 : Cond.methodLink "java/lang/IllegalArgumentException" 7 ⟨"java/lang/RuntimeException", "<init>", "(Ljava/lang/String;)V"⟩ ∈ gLW := List.mem_filter.mpr ⟨List.mem_of_getElem? (i := 335) (by decide +kernel), by decide +kernel⟩
theorem q_im_java_lang_RuntimeException__init___Ljava_lang_String_V : Cond.instanceMethod ⟨"java/lang/RuntimeException", "<init>", "(Ljava/lang/String;)V"⟩ ∈ gLW := List.mem_filter.mpr ⟨List.mem_of_getElem? (i := 336) (by decide +kernel), by decide +kernel⟩
theorem q_co_java_lang_RuntimeException__init___Ljava_lang_String_V : Cond.code ⟨"java/lang/RuntimeException", "<init>", "(Ljava/lang/String;)V"⟩ prog_17_method_2_code 2 none ∈ gLW := List.mem_filter.mpr ⟨List.mem_of_getElem? (i := 337) (by decide +kernel), by decide +kernel⟩
theorem q_ml_java_lang_RuntimeException_7 : Cond.methodLink "java/lang/RuntimeException" 7 ⟨"java/lang/Exception", "<init>", "(Ljava/lang/String;)V"⟩ ∈ gLW := List.mem_filter.mpr ⟨List.mem_of_getElem? (i := 338) (by decide +kernel), by decide +kernel⟩
theorem q_im_java_lang_Exception__init___Ljava_lang_String_V : Cond.instanceMethod ⟨"java/lang/Exception", "<init>", "(Ljava/lang/String;)V"⟩ ∈ gLW := List.mem_filter.mpr ⟨List.mem_of_getElem? (i := 339) (by decide +kernel), by decide +kernel⟩
theorem q_co_java_lang_Exception__init___Ljava_lang_String_V : Cond.code ⟨"java/lang/Exception", "<init>", "(Ljava/lang/String;)V"⟩ prog_12_method_2_code 2 none ∈ gLW := List.mem_filter.mpr ⟨List.mem_of_getElem? (i := 340) (by decide +kernel), by decide +kernel⟩
theorem q_ml_java_lang_Exception_7 : Cond.methodLink "java/lang/Exception" 7 ⟨"java/lang/Throwable", "<init>", "(Ljava/lang/String;)V"⟩ ∈ gLW := List.mem_filter.mpr ⟨List.mem_of_getElem? (i := 341) (by decide +kernel), by decide +kernel⟩
theorem q_im_java_lang_Throwable__init___Ljava_lang_String_V : Cond.instanceMethod ⟨"java/lang/Throwable", "<init>", "(Ljava/lang/String;)V"⟩ ∈ gLW := List.mem_filter.mpr ⟨List.mem_of_getElem? (i := 342) (by decide +kernel), by decide +kernel⟩
theorem q_co_java_lang_Throwable__init___Ljava_lang_String_V : Cond.code ⟨"java/lang/Throwable", "<init>", "(Ljava/lang/String;)V"⟩ prog_19_method_2_code 2 none ∈ gLW := List.mem_filter.mpr ⟨List.mem_of_getElem? (i := 343) (by decide +kernel), by decide +kernel⟩
theorem q_fl_java_lang_Throwable_31 : Cond.fieldLink "java/lang/Throwable" 31 "java/lang/Throwable" "detailMessage" "Ljava/lang/String;" ∈ gLW := List.mem_filter.mpr ⟨List.mem_of_getElem? (i := 345) (by decide +kernel), by decide +kernel⟩
theorem q_fl_java_lang_Throwable_7 : Cond.fieldLink "java/lang/Throwable" 7 "java/lang/Throwable" "cause" "Ljava/lang/Throwable;" ∈ gLW := List.mem_filter.mpr ⟨List.mem_of_getElem? (i := 346) (by decide +kernel), by decide +kernel⟩
theorem q_fl_java_lang_Throwable_17 : Cond.fieldLink "java/lang/Throwable" 17 "java/lang/Throwable" "stackTrace" "[Ljava/lang/StackTraceElement;" ∈ gLW := List.mem_filter.mpr ⟨List.mem_of_getElem? (i := 347) (by decide +kernel), by decide +kernel⟩
theorem q_fl_java_lang_Throwable_24 : Cond.fieldLink "java/lang/Throwable" 24 "java/lang/Throwable" "suppressedExceptions" "Ljava/util/List;" ∈ gLW := List.mem_filter.mpr ⟨List.mem_of_getElem? (i := 348) (by decide +kernel), by decide +kernel⟩
theorem q_ac_byte : Cond.arrayClass Jvm.ClassFile.FieldType.byte ∈ gLW := List.mem_filter.mpr ⟨List.mem_of_getElem? (i := 357) (by decide +kernel), by decide +kernel⟩
theorem q_ml_X8_103 : Cond.methodLink RX8 103 yX5_taskCount ∈ gLW := List.mem_filter.mpr ⟨List.mem_of_getElem? (i := 358) (by decide +kernel), by decide +kernel⟩
theorem q_im_X5_taskCount : Cond.instanceMethod yX5_taskCount ∈ gLW := List.mem_filter.mpr ⟨List.mem_of_getElem? (i := 359) (by decide +kernel), by decide +kernel⟩
theorem q_se_X5_taskCount : Cond.selects RX5 yX5_taskCount yX5_taskCount ∈ gLW := List.mem_filter.mpr ⟨List.mem_of_getElem? (i := 360) (by decide +kernel), by decide +kernel⟩
theorem q_co_X5_taskCount : Cond.code yX5_taskCount cX5_taskCount 1 (some (Jvm.ClassFile.FieldType.int)) ∈ gLW := List.mem_filter.mpr ⟨List.mem_of_getElem? (i := 361) (by decide +kernel), by decide +kernel⟩
theorem q_cl_X8_107 : Cond.classLink RX8 107 "java/lang/IllegalStateException" ∈ gLW := List.mem_filter.mpr ⟨List.mem_of_getElem? (i := 362) (by decide +kernel), by decide +kernel⟩
theorem q_ia_java_lang_IllegalStateException : Cond.instantiable "java/lang/IllegalStateException" 6 ∈ gLW := List.mem_filter.mpr ⟨List.mem_of_getElem? (i := 363) (by decide +kernel), by decide +kernel⟩
theorem q_ml_X8_111 : Cond.methodLink RX8 111 ⟨"java/lang/IllegalStateException", "<init>", "(Ljava/lang/String;)V"⟩ ∈ gLW := List.mem_filter.mpr ⟨List.mem_of_getElem? (i := 372) (by decide +kernel), by decide +kernel⟩
theorem q_im_java_lang_IllegalStateException__init___Ljava_lang_String_V : Cond.instanceMethod ⟨"java/lang/IllegalStateException", "<init>", "(Ljava/lang/String;)V"⟩ ∈ gLW := List.mem_filter.mpr ⟨List.mem_of_getElem? (i := 373) (by decide +kernel), by decide +kernel⟩
theorem q_co_java_lang_IllegalStateException__init___Ljava_lang_String_V : Cond.code ⟨"java/lang/IllegalStateException", "<init>", "(Ljava/lang/String;)V"⟩ prog_14_method_2_code 2 none ∈ gLW := List.mem_filter.mpr ⟨List.mem_of_getElem? (i := 374) (by decide +kernel), by decide +kernel⟩
theorem q_ml_java_lang_IllegalStateException_7 : Cond.methodLink "java/lang/IllegalStateException" 7 ⟨"java/lang/RuntimeException", "<init>", "(Ljava/lang/String;)V"⟩ ∈ gLW := List.mem_filter.mpr ⟨List.mem_of_getElem? (i := 375) (by decide +kernel), by decide +kernel⟩
theorem q_ml_X8_78 : Cond.methodLink RX8 78 yX3_save ∈ gLW := List.mem_filter.mpr ⟨List.mem_of_getElem? (i := 378) (by decide +kernel), by decide +kernel⟩
theorem q_im_X3_save : Cond.instanceMethod yX3_save ∈ gLW := List.mem_filter.mpr ⟨List.mem_of_getElem? (i := 379) (by decide +kernel), by decide +kernel⟩
theorem q_se_X3_save : Cond.selects RX3 yX3_save yX3_save ∈ gLW := List.mem_filter.mpr ⟨List.mem_of_getElem? (i := 380) (by decide +kernel), by decide +kernel⟩
theorem q_co_X3_save : Cond.code yX3_save cX3_save 3 none ∈ gLW := List.mem_filter.mpr ⟨List.mem_of_getElem? (i := 381) (by decide +kernel), by decide +kernel⟩
theorem q_ml_X3_25 : Cond.methodLink RX3 25 yX3_slot ∈ gLW := List.mem_filter.mpr ⟨List.mem_of_getElem? (i := 382) (by decide +kernel), by decide +kernel⟩
theorem q_im_X3_slot : Cond.instanceMethod yX3_slot ∈ gLW := List.mem_filter.mpr ⟨List.mem_of_getElem? (i := 384) (by decide +kernel), by decide +kernel⟩
theorem q_co_X3_slot : Cond.code yX3_slot cX3_slot 2 (some ((Jvm.ClassFile.FieldType.object "TaskSheets$Plan"))) ∈ gLW := List.mem_filter.mpr ⟨List.mem_of_getElem? (i := 385) (by decide +kernel), by decide +kernel⟩
theorem q_ml_X3_29 : Cond.methodLink RX3 29 yX5_copyAll ∈ gLW := List.mem_filter.mpr ⟨List.mem_of_getElem? (i := 386) (by decide +kernel), by decide +kernel⟩
theorem q_im_X5_copyAll : Cond.instanceMethod yX5_copyAll ∈ gLW := List.mem_filter.mpr ⟨List.mem_of_getElem? (i := 387) (by decide +kernel), by decide +kernel⟩
theorem q_se_X5_copyAll : Cond.selects RX5 yX5_copyAll yX5_copyAll ∈ gLW := List.mem_filter.mpr ⟨List.mem_of_getElem? (i := 388) (by decide +kernel), by decide +kernel⟩
theorem q_co_X5_copyAll : Cond.code yX5_copyAll cX5_copyAll 2 none ∈ gLW := List.mem_filter.mpr ⟨List.mem_of_getElem? (i := 389) (by decide +kernel), by decide +kernel⟩
theorem q_ml_X5_86 : Cond.methodLink RX5 86 yX4_copy ∈ gLW := List.mem_filter.mpr ⟨List.mem_of_getElem? (i := 390) (by decide +kernel), by decide +kernel⟩
theorem q_im_X4_copy : Cond.instanceMethod yX4_copy ∈ gLW := List.mem_filter.mpr ⟨List.mem_of_getElem? (i := 391) (by decide +kernel), by decide +kernel⟩
theorem q_se_X4_copy : Cond.selects RX4 yX4_copy yX4_copy ∈ gLW := List.mem_filter.mpr ⟨List.mem_of_getElem? (i := 392) (by decide +kernel), by decide +kernel⟩
theorem q_co_X4_copy : Cond.code yX4_copy cX4_copy 3 none ∈ gLW := List.mem_filter.mpr ⟨List.mem_of_getElem? (i := 393) (by decide +kernel), by decide +kernel⟩
theorem q_ml_X5_90 : Cond.methodLink RX5 90 yX5_copyTasksAndArrows ∈ gLW := List.mem_filter.mpr ⟨List.mem_of_getElem? (i := 394) (by decide +kernel), by decide +kernel⟩
theorem q_im_X5_copyTasksAndArrows : Cond.instanceMethod yX5_copyTasksAndArrows ∈ gLW := List.mem_filter.mpr ⟨List.mem_of_getElem? (i := 395) (by decide +kernel), by decide +kernel⟩
theorem q_se_X5_copyTasksAndArrows : Cond.selects RX5 yX5_copyTasksAndArrows yX5_copyTasksAndArrows ∈ gLW := List.mem_filter.mpr ⟨List.mem_of_getElem? (i := 396) (by decide +kernel), by decide +kernel⟩
theorem q_co_X5_copyTasksAndArrows : Cond.code yX5_copyTasksAndArrows cX5_copyTasksAndArrows 2 none ∈ gLW := List.mem_filter.mpr ⟨List.mem_of_getElem? (i := 397) (by decide +kernel), by decide +kernel⟩
theorem q_ml_X8_112 : Cond.methodLink RX8 112 yX5_tellTask ∈ gLW := List.mem_filter.mpr ⟨List.mem_of_getElem? (i := 398) (by decide +kernel), by decide +kernel⟩
theorem q_im_X5_tellTask : Cond.instanceMethod yX5_tellTask ∈ gLW := List.mem_filter.mpr ⟨List.mem_of_getElem? (i := 399) (by decide +kernel), by decide +kernel⟩
theorem q_se_X5_tellTask : Cond.selects RX5 yX5_tellTask yX5_tellTask ∈ gLW := List.mem_filter.mpr ⟨List.mem_of_getElem? (i := 400) (by decide +kernel), by decide +kernel⟩
theorem q_co_X5_tellTask : Cond.code yX5_tellTask cX5_tellTask 4 (some (Jvm.ClassFile.FieldType.int)) ∈ gLW := List.mem_filter.mpr ⟨List.mem_of_getElem? (i := 401) (by decide +kernel), by decide +kernel⟩
theorem q_ml_X5_73 : Cond.methodLink RX5 73 yX5_putBar ∈ gLW := List.mem_filter.mpr ⟨List.mem_of_getElem? (i := 402) (by decide +kernel), by decide +kernel⟩
theorem q_im_X5_putBar : Cond.instanceMethod yX5_putBar ∈ gLW := List.mem_filter.mpr ⟨List.mem_of_getElem? (i := 403) (by decide +kernel), by decide +kernel⟩
theorem q_se_X5_putBar : Cond.selects RX5 yX5_putBar yX5_putBar ∈ gLW := List.mem_filter.mpr ⟨List.mem_of_getElem? (i := 404) (by decide +kernel), by decide +kernel⟩
theorem q_co_X5_putBar : Cond.code yX5_putBar cX5_putBar 4 none ∈ gLW := List.mem_filter.mpr ⟨List.mem_of_getElem? (i := 405) (by decide +kernel), by decide +kernel⟩
theorem q_ml_X8_90 : Cond.methodLink RX8 90 yX8_printAnew ∈ gLW := List.mem_filter.mpr ⟨List.mem_of_getElem? (i := 406) (by decide +kernel), by decide +kernel⟩
theorem q_im_X8_printAnew : Cond.instanceMethod yX8_printAnew ∈ gLW := List.mem_filter.mpr ⟨List.mem_of_getElem? (i := 408) (by decide +kernel), by decide +kernel⟩
theorem q_co_X8_printAnew : Cond.code yX8_printAnew cX8_printAnew 1 none ∈ gLW := List.mem_filter.mpr ⟨List.mem_of_getElem? (i := 409) (by decide +kernel), by decide +kernel⟩
theorem q_ml_X8_82 : Cond.methodLink RX8 82 yX5_setting ∈ gLW := List.mem_filter.mpr ⟨List.mem_of_getElem? (i := 410) (by decide +kernel), by decide +kernel⟩
theorem q_im_X5_setting : Cond.instanceMethod yX5_setting ∈ gLW := List.mem_filter.mpr ⟨List.mem_of_getElem? (i := 411) (by decide +kernel), by decide +kernel⟩
theorem q_se_X5_setting : Cond.selects RX5 yX5_setting yX5_setting ∈ gLW := List.mem_filter.mpr ⟨List.mem_of_getElem? (i := 412) (by decide +kernel), by decide +kernel⟩
theorem q_co_X5_setting : Cond.code yX5_setting cX5_setting 2 (some (Jvm.ClassFile.FieldType.int)) ∈ gLW := List.mem_filter.mpr ⟨List.mem_of_getElem? (i := 413) (by decide +kernel), by decide +kernel⟩
theorem q_ml_X5_43 : Cond.methodLink RX5 43 yX4_at ∈ gLW := List.mem_filter.mpr ⟨List.mem_of_getElem? (i := 414) (by decide +kernel), by decide +kernel⟩
theorem q_im_X4_at : Cond.instanceMethod yX4_at ∈ gLW := List.mem_filter.mpr ⟨List.mem_of_getElem? (i := 415) (by decide +kernel), by decide +kernel⟩
theorem q_se_X4_at : Cond.selects RX4 yX4_at yX4_at ∈ gLW := List.mem_filter.mpr ⟨List.mem_of_getElem? (i := 416) (by decide +kernel), by decide +kernel⟩
theorem q_co_X4_at : Cond.code yX4_at cX4_at 2 (some (Jvm.ClassFile.FieldType.int)) ∈ gLW := List.mem_filter.mpr ⟨List.mem_of_getElem? (i := 417) (by decide +kernel), by decide +kernel⟩
theorem q_ml_X8_223 : Cond.methodLink RX8 223 yX0_lay ∈ gLW := List.mem_filter.mpr ⟨List.mem_of_getElem? (i := 418) (by decide +kernel), by decide +kernel⟩
theorem q_im_X0_lay : Cond.instanceMethod yX0_lay ∈ gLW := List.mem_filter.mpr ⟨List.mem_of_getElem? (i := 419) (by decide +kernel), by decide +kernel⟩
theorem q_se_X0_lay : Cond.selects RX0 yX0_lay yX0_lay ∈ gLW := List.mem_filter.mpr ⟨List.mem_of_getElem? (i := 420) (by decide +kernel), by decide +kernel⟩
theorem q_co_X0_lay : Cond.code yX0_lay cX0_lay 4 none ∈ gLW := List.mem_filter.mpr ⟨List.mem_of_getElem? (i := 421) (by decide +kernel), by decide +kernel⟩
theorem q_ml_X0_43 : Cond.methodLink RX0 43 yX0_gather ∈ gLW := List.mem_filter.mpr ⟨List.mem_of_getElem? (i := 422) (by decide +kernel), by decide +kernel⟩
theorem q_im_X0_gather : Cond.instanceMethod yX0_gather ∈ gLW := List.mem_filter.mpr ⟨List.mem_of_getElem? (i := 424) (by decide +kernel), by decide +kernel⟩
theorem q_co_X0_gather : Cond.code yX0_gather cX0_gather 4 none ∈ gLW := List.mem_filter.mpr ⟨List.mem_of_getElem? (i := 425) (by decide +kernel), by decide +kernel⟩
theorem q_ml_X0_59 : Cond.methodLink RX0 59 yX5_taskCount ∈ gLW := List.mem_filter.mpr ⟨List.mem_of_getElem? (i := 426) (by decide +kernel), by decide +kernel⟩
theorem q_ml_X0_63 : Cond.methodLink RX0 63 yX5_group ∈ gLW := List.mem_filter.mpr ⟨List.mem_of_getElem? (i := 427) (by decide +kernel), by decide +kernel⟩
theorem q_im_X5_group : Cond.instanceMethod yX5_group ∈ gLW := List.mem_filter.mpr ⟨List.mem_of_getElem? (i := 428) (by decide +kernel), by decide +kernel⟩
theorem q_se_X5_group : Cond.selects RX5 yX5_group yX5_group ∈ gLW := List.mem_filter.mpr ⟨List.mem_of_getElem? (i := 429) (by decide +kernel), by decide +kernel⟩
theorem q_co_X5_group : Cond.code yX5_group cX5_group 2 (some (Jvm.ClassFile.FieldType.int)) ∈ gLW := List.mem_filter.mpr ⟨List.mem_of_getElem? (i := 430) (by decide +kernel), by decide +kernel⟩
theorem q_ml_X0_66 : Cond.methodLink RX0 66 yX0_insert ∈ gLW := List.mem_filter.mpr ⟨List.mem_of_getElem? (i := 431) (by decide +kernel), by decide +kernel⟩
theorem q_im_X0_insert : Cond.instanceMethod yX0_insert ∈ gLW := List.mem_filter.mpr ⟨List.mem_of_getElem? (i := 433) (by decide +kernel), by decide +kernel⟩
theorem q_co_X0_insert : Cond.code yX0_insert cX0_insert 4 none ∈ gLW := List.mem_filter.mpr ⟨List.mem_of_getElem? (i := 434) (by decide +kernel), by decide +kernel⟩
theorem q_ml_X0_33 : Cond.methodLink RX0 33 yX4_at ∈ gLW := List.mem_filter.mpr ⟨List.mem_of_getElem? (i := 435) (by decide +kernel), by decide +kernel⟩
theorem q_ml_X0_69 : Cond.methodLink RX0 69 yX5_first ∈ gLW := List.mem_filter.mpr ⟨List.mem_of_getElem? (i := 436) (by decide +kernel), by decide +kernel⟩
theorem q_im_X5_first : Cond.instanceMethod yX5_first ∈ gLW := List.mem_filter.mpr ⟨List.mem_of_getElem? (i := 437) (by decide +kernel), by decide +kernel⟩
theorem q_se_X5_first : Cond.selects RX5 yX5_first yX5_first ∈ gLW := List.mem_filter.mpr ⟨List.mem_of_getElem? (i := 438) (by decide +kernel), by decide +kernel⟩
theorem q_co_X5_first : Cond.code yX5_first cX5_first 2 (some (Jvm.ClassFile.FieldType.int)) ∈ gLW := List.mem_filter.mpr ⟨List.mem_of_getElem? (i := 439) (by decide +kernel), by decide +kernel⟩
theorem q_ml_X0_72 : Cond.methodLink RX0 72 yX4_put ∈ gLW := List.mem_filter.mpr ⟨List.mem_of_getElem? (i := 440) (by decide +kernel), by decide +kernel⟩
theorem q_ml_X0_50 : Cond.methodLink RX0 50 yX5_setting ∈ gLW := List.mem_filter.mpr ⟨List.mem_of_getElem? (i := 441) (by decide +kernel), by decide +kernel⟩
theorem q_ml_X0_55 : Cond.methodLink RX0 55 yX0_layGroup ∈ gLW := List.mem_filter.mpr ⟨List.mem_of_getElem? (i := 442) (by decide +kernel), by decide +kernel⟩
theorem q_im_X0_layGroup : Cond.instanceMethod yX0_layGroup ∈ gLW := List.mem_filter.mpr ⟨List.mem_of_getElem? (i := 444) (by decide +kernel), by decide +kernel⟩
theorem q_co_X0_layGroup : Cond.code yX0_layGroup cX0_layGroup 7 none ∈ gLW := List.mem_filter.mpr ⟨List.mem_of_getElem? (i := 445) (by decide +kernel), by decide +kernel⟩
theorem q_ml_X0_76 : Cond.methodLink RX0 76 yX0_beginBand ∈ gLW := List.mem_filter.mpr ⟨List.mem_of_getElem? (i := 446) (by decide +kernel), by decide +kernel⟩
theorem q_im_X0_beginBand : Cond.instanceMethod yX0_beginBand ∈ gLW := List.mem_filter.mpr ⟨List.mem_of_getElem? (i := 448) (by decide +kernel), by decide +kernel⟩
theorem q_co_X0_beginBand : Cond.code yX0_beginBand cX0_beginBand 1 none ∈ gLW := List.mem_filter.mpr ⟨List.mem_of_getElem? (i := 449) (by decide +kernel), by decide +kernel⟩
theorem q_ml_X0_82 : Cond.methodLink RX0 82 yX4_fill ∈ gLW := List.mem_filter.mpr ⟨List.mem_of_getElem? (i := 450) (by decide +kernel), by decide +kernel⟩
theorem q_im_X4_fill : Cond.instanceMethod yX4_fill ∈ gLW := List.mem_filter.mpr ⟨List.mem_of_getElem? (i := 451) (by decide +kernel), by decide +kernel⟩
theorem q_se_X4_fill : Cond.selects RX4 yX4_fill yX4_fill ∈ gLW := List.mem_filter.mpr ⟨List.mem_of_getElem? (i := 452) (by decide +kernel), by decide +kernel⟩
theorem q_co_X4_fill : Cond.code yX4_fill cX4_fill 5 none ∈ gLW := List.mem_filter.mpr ⟨List.mem_of_getElem? (i := 453) (by decide +kernel), by decide +kernel⟩
theorem q_ml_X0_79 : Cond.methodLink RX0 79 yX0_take ∈ gLW := List.mem_filter.mpr ⟨List.mem_of_getElem? (i := 454) (by decide +kernel), by decide +kernel⟩
theorem q_im_X0_take : Cond.instanceMethod yX0_take ∈ gLW := List.mem_filter.mpr ⟨List.mem_of_getElem? (i := 456) (by decide +kernel), by decide +kernel⟩
theorem q_co_X0_take : Cond.code yX0_take cX0_take 2 none ∈ gLW := List.mem_filter.mpr ⟨List.mem_of_getElem? (i := 457) (by decide +kernel), by decide +kernel⟩
theorem q_ml_X8_227 : Cond.methodLink RX8 227 yX6_print ∈ gLW := List.mem_filter.mpr ⟨List.mem_of_getElem? (i := 458) (by decide +kernel), by decide +kernel⟩
theorem q_im_X6_print : Cond.instanceMethod yX6_print ∈ gLW := List.mem_filter.mpr ⟨List.mem_of_getElem? (i := 459) (by decide +kernel), by decide +kernel⟩
theorem q_se_X6_print : Cond.selects RX6 yX6_print yX6_print ∈ gLW := List.mem_filter.mpr ⟨List.mem_of_getElem? (i := 460) (by decide +kernel), by decide +kernel⟩
theorem q_co_X6_print : Cond.code yX6_print cX6_print 7 none ∈ gLW := List.mem_filter.mpr ⟨List.mem_of_getElem? (i := 461) (by decide +kernel), by decide +kernel⟩
theorem q_ml_X6_47 : Cond.methodLink RX6 47 yX0_count ∈ gLW := List.mem_filter.mpr ⟨List.mem_of_getElem? (i := 462) (by decide +kernel), by decide +kernel⟩
theorem q_im_X0_count : Cond.instanceMethod yX0_count ∈ gLW := List.mem_filter.mpr ⟨List.mem_of_getElem? (i := 463) (by decide +kernel), by decide +kernel⟩
theorem q_se_X0_count : Cond.selects RX0 yX0_count yX0_count ∈ gLW := List.mem_filter.mpr ⟨List.mem_of_getElem? (i := 464) (by decide +kernel), by decide +kernel⟩
theorem q_co_X0_count : Cond.code yX0_count cX0_count 1 (some (Jvm.ClassFile.FieldType.int)) ∈ gLW := List.mem_filter.mpr ⟨List.mem_of_getElem? (i := 465) (by decide +kernel), by decide +kernel⟩
theorem q_ml_X6_52 : Cond.methodLink RX6 52 yX4_fill ∈ gLW := List.mem_filter.mpr ⟨List.mem_of_getElem? (i := 466) (by decide +kernel), by decide +kernel⟩
theorem q_ml_X6_56 : Cond.methodLink RX6 56 yX5_taskCount ∈ gLW := List.mem_filter.mpr ⟨List.mem_of_getElem? (i := 467) (by decide +kernel), by decide +kernel⟩
theorem q_ml_X6_61 : Cond.methodLink RX6 61 yX5_last ∈ gLW := List.mem_filter.mpr ⟨List.mem_of_getElem? (i := 468) (by decide +kernel), by decide +kernel⟩
theorem q_im_X5_last : Cond.instanceMethod yX5_last ∈ gLW := List.mem_filter.mpr ⟨List.mem_of_getElem? (i := 469) (by decide +kernel), by decide +kernel⟩
theorem q_se_X5_last : Cond.selects RX5 yX5_last yX5_last ∈ gLW := List.mem_filter.mpr ⟨List.mem_of_getElem? (i := 470) (by decide +kernel), by decide +kernel⟩
theorem q_co_X5_last : Cond.code yX5_last cX5_last 2 (some (Jvm.ClassFile.FieldType.int)) ∈ gLW := List.mem_filter.mpr ⟨List.mem_of_getElem? (i := 471) (by decide +kernel), by decide +kernel⟩
theorem q_st_X8_stripOfDay : Cond.static yX8_stripOfDay ∈ gLW := List.mem_filter.mpr ⟨List.mem_of_getElem? (i := 473) (by decide +kernel), by decide +kernel⟩
theorem q_co_X8_stripOfDay : Cond.code yX8_stripOfDay cX8_stripOfDay 2 (some (Jvm.ClassFile.FieldType.int)) ∈ gLW := List.mem_filter.mpr ⟨List.mem_of_getElem? (i := 474) (by decide +kernel), by decide +kernel⟩
theorem q_ml_X6_67 : Cond.methodLink RX6 67 yX5_first ∈ gLW := List.mem_filter.mpr ⟨List.mem_of_getElem? (i := 475) (by decide +kernel), by decide +kernel⟩
theorem q_ml_X6_70 : Cond.methodLink RX6 70 yX0_bandOf ∈ gLW := List.mem_filter.mpr ⟨List.mem_of_getElem? (i := 476) (by decide +kernel), by decide +kernel⟩
theorem q_im_X0_bandOf : Cond.instanceMethod yX0_bandOf ∈ gLW := List.mem_filter.mpr ⟨List.mem_of_getElem? (i := 477) (by decide +kernel), by decide +kernel⟩
theorem q_se_X0_bandOf : Cond.selects RX0 yX0_bandOf yX0_bandOf ∈ gLW := List.mem_filter.mpr ⟨List.mem_of_getElem? (i := 478) (by decide +kernel), by decide +kernel⟩
theorem q_co_X0_bandOf : Cond.code yX0_bandOf cX0_bandOf 2 (some (Jvm.ClassFile.FieldType.int)) ∈ gLW := List.mem_filter.mpr ⟨List.mem_of_getElem? (i := 479) (by decide +kernel), by decide +kernel⟩
theorem q_ml_X6_43 : Cond.methodLink RX6 43 yX6_spot ∈ gLW := List.mem_filter.mpr ⟨List.mem_of_getElem? (i := 480) (by decide +kernel), by decide +kernel⟩
theorem q_st_X6_spot : Cond.static yX6_spot ∈ gLW := List.mem_filter.mpr ⟨List.mem_of_getElem? (i := 481) (by decide +kernel), by decide +kernel⟩
theorem q_co_X6_spot : Cond.code yX6_spot cX6_spot 3 (some (Jvm.ClassFile.FieldType.int)) ∈ gLW := List.mem_filter.mpr ⟨List.mem_of_getElem? (i := 482) (by decide +kernel), by decide +kernel⟩
theorem q_ml_X6_71 : Cond.methodLink RX6 71 yX4_increase ∈ gLW := List.mem_filter.mpr ⟨List.mem_of_getElem? (i := 483) (by decide +kernel), by decide +kernel⟩
theorem q_im_X4_increase : Cond.instanceMethod yX4_increase ∈ gLW := List.mem_filter.mpr ⟨List.mem_of_getElem? (i := 484) (by decide +kernel), by decide +kernel⟩
theorem q_se_X4_increase : Cond.selects RX4 yX4_increase yX4_increase ∈ gLW := List.mem_filter.mpr ⟨List.mem_of_getElem? (i := 485) (by decide +kernel), by decide +kernel⟩
theorem q_co_X4_increase : Cond.code yX4_increase cX4_increase 2 none ∈ gLW := List.mem_filter.mpr ⟨List.mem_of_getElem? (i := 486) (by decide +kernel), by decide +kernel⟩
theorem q_ml_X4_15 : Cond.methodLink RX4 15 yX4_at ∈ gLW := List.mem_filter.mpr ⟨List.mem_of_getElem? (i := 487) (by decide +kernel), by decide +kernel⟩
theorem q_ml_X4_19 : Cond.methodLink RX4 19 yX4_put ∈ gLW := List.mem_filter.mpr ⟨List.mem_of_getElem? (i := 488) (by decide +kernel), by decide +kernel⟩
theorem q_ml_X6_74 : Cond.methodLink RX6 74 yX5_setting ∈ gLW := List.mem_filter.mpr ⟨List.mem_of_getElem? (i := 489) (by decide +kernel), by decide +kernel⟩
theorem q_ml_X6_77 : Cond.methodLink RX6 77 yX6_numberByBands ∈ gLW := List.mem_filter.mpr ⟨List.mem_of_getElem? (i := 490) (by decide +kernel), by decide +kernel⟩
theorem q_im_X6_numberByBands : Cond.instanceMethod yX6_numberByBands ∈ gLW := List.mem_filter.mpr ⟨List.mem_of_getElem? (i := 492) (by decide +kernel), by decide +kernel⟩
theorem q_co_X6_numberByBands : Cond.code yX6_numberByBands cX6_numberByBands 5 none ∈ gLW := List.mem_filter.mpr ⟨List.mem_of_getElem? (i := 493) (by decide +kernel), by decide +kernel⟩
theorem q_ml_X6_84 : Cond.methodLink RX6 84 yX6_number ∈ gLW := List.mem_filter.mpr ⟨List.mem_of_getElem? (i := 494) (by decide +kernel), by decide +kernel⟩
theorem q_im_X6_number : Cond.instanceMethod yX6_number ∈ gLW := List.mem_filter.mpr ⟨List.mem_of_getElem? (i := 496) (by decide +kernel), by decide +kernel⟩
theorem q_co_X6_number : Cond.code yX6_number cX6_number 4 none ∈ gLW := List.mem_filter.mpr ⟨List.mem_of_getElem? (i := 497) (by decide +kernel), by decide +kernel⟩
theorem q_ml_X6_33 : Cond.methodLink RX6 33 yX4_at ∈ gLW := List.mem_filter.mpr ⟨List.mem_of_getElem? (i := 498) (by decide +kernel), by decide +kernel⟩
theorem q_ml_X6_87 : Cond.methodLink RX6 87 yX4_put ∈ gLW := List.mem_filter.mpr ⟨List.mem_of_getElem? (i := 499) (by decide +kernel), by decide +kernel⟩
theorem q_ml_X6_81 : Cond.methodLink RX6 81 yX6_numberByStrips ∈ gLW := List.mem_filter.mpr ⟨List.mem_of_getElem? (i := 500) (by decide +kernel), by decide +kernel⟩
theorem q_im_X6_numberByStrips : Cond.instanceMethod yX6_numberByStrips ∈ gLW := List.mem_filter.mpr ⟨List.mem_of_getElem? (i := 502) (by decide +kernel), by decide +kernel⟩
theorem q_co_X6_numberByStrips : Cond.code yX6_numberByStrips cX6_numberByStrips 5 none ∈ gLW := List.mem_filter.mpr ⟨List.mem_of_getElem? (i := 503) (by decide +kernel), by decide +kernel⟩
theorem q_ml_X8_294 : Cond.methodLink RX8 294 yX2_draw ∈ gLW := List.mem_filter.mpr ⟨List.mem_of_getElem? (i := 504) (by decide +kernel), by decide +kernel⟩
theorem q_im_X2_draw : Cond.instanceMethod yX2_draw ∈ gLW := List.mem_filter.mpr ⟨List.mem_of_getElem? (i := 505) (by decide +kernel), by decide +kernel⟩
theorem q_se_X2_draw : Cond.selects RX2 yX2_draw yX2_draw ∈ gLW := List.mem_filter.mpr ⟨List.mem_of_getElem? (i := 506) (by decide +kernel), by decide +kernel⟩
theorem q_co_X2_draw : Cond.code yX2_draw cX2_draw 10 none ∈ gLW := List.mem_filter.mpr ⟨List.mem_of_getElem? (i := 507) (by decide +kernel), by decide +kernel⟩
theorem q_ml_X2_43 : Cond.methodLink RX2 43 yX5_setting ∈ gLW := List.mem_filter.mpr ⟨List.mem_of_getElem? (i := 508) (by decide +kernel), by decide +kernel⟩
theorem q_ml_X2_48 : Cond.methodLink RX2 48 yX6_count ∈ gLW := List.mem_filter.mpr ⟨List.mem_of_getElem? (i := 509) (by decide +kernel), by decide +kernel⟩
theorem q_im_X6_count : Cond.instanceMethod yX6_count ∈ gLW := List.mem_filter.mpr ⟨List.mem_of_getElem? (i := 510) (by decide +kernel), by decide +kernel⟩
theorem q_se_X6_count : Cond.selects RX6 yX6_count yX6_count ∈ gLW := List.mem_filter.mpr ⟨List.mem_of_getElem? (i := 511) (by decide +kernel), by decide +kernel⟩
theorem q_co_X6_count : Cond.code yX6_count cX6_count 1 (some (Jvm.ClassFile.FieldType.int)) ∈ gLW := List.mem_filter.mpr ⟨List.mem_of_getElem? (i := 512) (by decide +kernel), by decide +kernel⟩
theorem q_ml_X2_53 : Cond.methodLink RX2 53 yX4_fill ∈ gLW := List.mem_filter.mpr ⟨List.mem_of_getElem? (i := 513) (by decide +kernel), by decide +kernel⟩
theorem q_ml_X2_57 : Cond.methodLink RX2 57 yX5_arrowCount ∈ gLW := List.mem_filter.mpr ⟨List.mem_of_getElem? (i := 514) (by decide +kernel), by decide +kernel⟩
theorem q_im_X5_arrowCount : Cond.instanceMethod yX5_arrowCount ∈ gLW := List.mem_filter.mpr ⟨List.mem_of_getElem? (i := 515) (by decide +kernel), by decide +kernel⟩
theorem q_se_X5_arrowCount : Cond.selects RX5 yX5_arrowCount yX5_arrowCount ∈ gLW := List.mem_filter.mpr ⟨List.mem_of_getElem? (i := 516) (by decide +kernel), by decide +kernel⟩
theorem q_co_X5_arrowCount : Cond.code yX5_arrowCount cX5_arrowCount 1 (some (Jvm.ClassFile.FieldType.int)) ∈ gLW := List.mem_filter.mpr ⟨List.mem_of_getElem? (i := 517) (by decide +kernel), by decide +kernel⟩
theorem q_ml_X2_60 : Cond.methodLink RX2 60 yX5_from ∈ gLW := List.mem_filter.mpr ⟨List.mem_of_getElem? (i := 518) (by decide +kernel), by decide +kernel⟩
theorem q_im_X5_from : Cond.instanceMethod yX5_from ∈ gLW := List.mem_filter.mpr ⟨List.mem_of_getElem? (i := 519) (by decide +kernel), by decide +kernel⟩
theorem q_se_X5_from : Cond.selects RX5 yX5_from yX5_from ∈ gLW := List.mem_filter.mpr ⟨List.mem_of_getElem? (i := 520) (by decide +kernel), by decide +kernel⟩
theorem q_co_X5_from : Cond.code yX5_from cX5_from 2 (some (Jvm.ClassFile.FieldType.int)) ∈ gLW := List.mem_filter.mpr ⟨List.mem_of_getElem? (i := 521) (by decide +kernel), by decide +kernel⟩
theorem q_ml_X2_63 : Cond.methodLink RX2 63 yX5_to ∈ gLW := List.mem_filter.mpr ⟨List.mem_of_getElem? (i := 522) (by decide +kernel), by decide +kernel⟩
theorem q_im_X5_to : Cond.instanceMethod yX5_to ∈ gLW := List.mem_filter.mpr ⟨List.mem_of_getElem? (i := 523) (by decide +kernel), by decide +kernel⟩
theorem q_se_X5_to : Cond.selects RX5 yX5_to yX5_to ∈ gLW := List.mem_filter.mpr ⟨List.mem_of_getElem? (i := 524) (by decide +kernel), by decide +kernel⟩
theorem q_co_X5_to : Cond.code yX5_to cX5_to 2 (some (Jvm.ClassFile.FieldType.int)) ∈ gLW := List.mem_filter.mpr ⟨List.mem_of_getElem? (i := 525) (by decide +kernel), by decide +kernel⟩
theorem q_ml_X2_66 : Cond.methodLink RX2 66 yX0_bandOf ∈ gLW := List.mem_filter.mpr ⟨List.mem_of_getElem? (i := 526) (by decide +kernel), by decide +kernel⟩
theorem q_ml_X2_71 : Cond.methodLink RX2 71 yX5_last ∈ gLW := List.mem_filter.mpr ⟨List.mem_of_getElem? (i := 527) (by decide +kernel), by decide +kernel⟩
theorem q_ml_X2_78 : Cond.methodLink RX2 78 yX6_numberAt ∈ gLW := List.mem_filter.mpr ⟨List.mem_of_getElem? (i := 529) (by decide +kernel), by decide +kernel⟩
theorem q_im_X6_numberAt : Cond.instanceMethod yX6_numberAt ∈ gLW := List.mem_filter.mpr ⟨List.mem_of_getElem? (i := 530) (by decide +kernel), by decide +kernel⟩
theorem q_se_X6_numberAt : Cond.selects RX6 yX6_numberAt yX6_numberAt ∈ gLW := List.mem_filter.mpr ⟨List.mem_of_getElem? (i := 531) (by decide +kernel), by decide +kernel⟩
theorem q_co_X6_numberAt : Cond.code yX6_numberAt cX6_numberAt 3 (some (Jvm.ClassFile.FieldType.int)) ∈ gLW := List.mem_filter.mpr ⟨List.mem_of_getElem? (i := 532) (by decide +kernel), by decide +kernel⟩
theorem q_ml_X2_81 : Cond.methodLink RX2 81 yX5_first ∈ gLW := List.mem_filter.mpr ⟨List.mem_of_getElem? (i := 533) (by decide +kernel), by decide +kernel⟩
theorem q_ml_X2_84 : Cond.methodLink RX2 84 yX4_put ∈ gLW := List.mem_filter.mpr ⟨List.mem_of_getElem? (i := 534) (by decide +kernel), by decide +kernel⟩
theorem q_ml_X2_88 : Cond.methodLink RX2 88 yX2_drawInside ∈ gLW := List.mem_filter.mpr ⟨List.mem_of_getElem? (i := 535) (by decide +kernel), by decide +kernel⟩
theorem q_im_X2_drawInside : Cond.instanceMethod yX2_drawInside ∈ gLW := List.mem_filter.mpr ⟨List.mem_of_getElem? (i := 537) (by decide +kernel), by decide +kernel⟩
theorem q_co_X2_drawInside : Cond.code yX2_drawInside cX2_drawInside 3 none ∈ gLW := List.mem_filter.mpr ⟨List.mem_of_getElem? (i := 538) (by decide +kernel), by decide +kernel⟩
theorem q_ml_X2_94 : Cond.methodLink RX2 94 yX4_increase ∈ gLW := List.mem_filter.mpr ⟨List.mem_of_getElem? (i := 539) (by decide +kernel), by decide +kernel⟩
theorem q_ml_X2_91 : Cond.methodLink RX2 91 yX2_drawThroughExit ∈ gLW := List.mem_filter.mpr ⟨List.mem_of_getElem? (i := 540) (by decide +kernel), by decide +kernel⟩
theorem q_im_X2_drawThroughExit : Cond.instanceMethod yX2_drawThroughExit ∈ gLW := List.mem_filter.mpr ⟨List.mem_of_getElem? (i := 542) (by decide +kernel), by decide +kernel⟩
theorem q_co_X2_drawThroughExit : Cond.code yX2_drawThroughExit cX2_drawThroughExit 4 none ∈ gLW := List.mem_filter.mpr ⟨List.mem_of_getElem? (i := 543) (by decide +kernel), by decide +kernel⟩
theorem q_ml_L_35 : Cond.methodLink RL 35 yL_sets ∈ gLW := List.mem_filter.mpr ⟨List.mem_of_getElem? (i := 546) (by decide +kernel), by decide +kernel⟩
theorem q_st_L_sets : Cond.static yL_sets ∈ gLW := List.mem_filter.mpr ⟨List.mem_of_getElem? (i := 547) (by decide +kernel), by decide +kernel⟩
theorem q_cw_L_sets : Cond.codeWith yL_sets cL_sets 4 (some (Jvm.ClassFile.FieldType.int)) [((0 : Nat), (6 : Nat), (7 : Nat), (71 : Nat))] ∈ gLW := List.mem_filter.mpr ⟨List.mem_of_getElem? (i := 548) (by decide +kernel), by decide +kernel⟩
theorem q_ml_L_66 : Cond.methodLink RL 66 yX8_set ∈ gLW := List.mem_filter.mpr ⟨List.mem_of_getElem? (i := 549) (by decide +kernel), by decide +kernel⟩
theorem q_im_X8_set : Cond.instanceMethod yX8_set ∈ gLW := List.mem_filter.mpr ⟨List.mem_of_getElem? (i := 550) (by decide +kernel), by decide +kernel⟩
theorem q_se_X8_set : Cond.selects RX8 yX8_set yX8_set ∈ gLW := List.mem_filter.mpr ⟨List.mem_of_getElem? (i := 551) (by decide +kernel), by decide +kernel⟩
theorem q_co_X8_set : Cond.code yX8_set cX8_set 4 (some (Jvm.ClassFile.FieldType.int)) ∈ gLW := List.mem_filter.mpr ⟨List.mem_of_getElem? (i := 552) (by decide +kernel), by decide +kernel⟩
theorem q_ml_X8_67 : Cond.methodLink RX8 67 yX8_isSetting ∈ gLW := List.mem_filter.mpr ⟨List.mem_of_getElem? (i := 553) (by decide +kernel), by decide +kernel⟩
theorem q_st_X8_isSetting : Cond.static yX8_isSetting ∈ gLW := List.mem_filter.mpr ⟨List.mem_of_getElem? (i := 554) (by decide +kernel), by decide +kernel⟩
theorem q_co_X8_isSetting : Cond.code yX8_isSetting cX8_isSetting 2 (some (Jvm.ClassFile.FieldType.boolean)) ∈ gLW := List.mem_filter.mpr ⟨List.mem_of_getElem? (i := 555) (by decide +kernel), by decide +kernel⟩
theorem q_fl_X8_315 : Cond.fieldLink RX8 315 "TaskSheets" "SMALLEST" "[I" ∈ gLW := List.mem_filter.mpr ⟨List.mem_of_getElem? (i := 556) (by decide +kernel), by decide +kernel⟩
theorem q_fl_X8_319 : Cond.fieldLink RX8 319 "TaskSheets" "GREATEST" "[I" ∈ gLW := List.mem_filter.mpr ⟨List.mem_of_getElem? (i := 558) (by decide +kernel), by decide +kernel⟩
theorem q_ml_X8_86 : Cond.methodLink RX8 86 yX5_putSetting ∈ gLW := List.mem_filter.mpr ⟨List.mem_of_getElem? (i := 561) (by decide +kernel), by decide +kernel⟩
theorem q_im_X5_putSetting : Cond.instanceMethod yX5_putSetting ∈ gLW := List.mem_filter.mpr ⟨List.mem_of_getElem? (i := 562) (by decide +kernel), by decide +kernel⟩
theorem q_se_X5_putSetting : Cond.selects RX5 yX5_putSetting yX5_putSetting ∈ gLW := List.mem_filter.mpr ⟨List.mem_of_getElem? (i := 563) (by decide +kernel), by decide +kernel⟩
theorem q_co_X5_putSetting : Cond.code yX5_putSetting cX5_putSetting 3 none ∈ gLW := List.mem_filter.mpr ⟨List.mem_of_getElem? (i := 564) (by decide +kernel), by decide +kernel⟩
theorem q_ml_L_39 : Cond.methodLink RL 39 yL_moves ∈ gLW := List.mem_filter.mpr ⟨List.mem_of_getElem? (i := 565) (by decide +kernel), by decide +kernel⟩
theorem q_st_L_moves : Cond.static yL_moves ∈ gLW := List.mem_filter.mpr ⟨List.mem_of_getElem? (i := 566) (by decide +kernel), by decide +kernel⟩
theorem q_cw_L_moves : Cond.codeWith yL_moves cL_moves 5 (some (Jvm.ClassFile.FieldType.int)) [((0 : Nat), (7 : Nat), (8 : Nat), (82 : Nat)), ((0 : Nat), (7 : Nat), (13 : Nat), (71 : Nat))] ∈ gLW := List.mem_filter.mpr ⟨List.mem_of_getElem? (i := 567) (by decide +kernel), by decide +kernel⟩
theorem q_cl_L_82 : Cond.classLink RL 82 "java/lang/IndexOutOfBoundsException" ∈ gLW := List.mem_filter.mpr ⟨List.mem_of_getElem? (i := 568) (by decide +kernel), by decide +kernel⟩
theorem q_ml_L_79 : Cond.methodLink RL 79 yX8_move ∈ gLW := List.mem_filter.mpr ⟨List.mem_of_getElem? (i := 569) (by decide +kernel), by decide +kernel⟩
theorem q_im_X8_move : Cond.instanceMethod yX8_move ∈ gLW := List.mem_filter.mpr ⟨List.mem_of_getElem? (i := 570) (by decide +kernel), by decide +kernel⟩
theorem q_se_X8_move : Cond.selects RX8 yX8_move yX8_move ∈ gLW := List.mem_filter.mpr ⟨List.mem_of_getElem? (i := 571) (by decide +kernel), by decide +kernel⟩
theorem q_co_X8_move : Cond.code yX8_move cX8_move 5 (some (Jvm.ClassFile.FieldType.int)) ∈ gLW := List.mem_filter.mpr ⟨List.mem_of_getElem? (i := 572) (by decide +kernel), by decide +kernel⟩
theorem q_ml_X8_116 : Cond.methodLink RX8 116 yX8_requireTask ∈ gLW := List.mem_filter.mpr ⟨List.mem_of_getElem? (i := 573) (by decide +kernel), by decide +kernel⟩
theorem q_im_X8_requireTask : Cond.instanceMethod yX8_requireTask ∈ gLW := List.mem_filter.mpr ⟨List.mem_of_getElem? (i := 575) (by decide +kernel), by decide +kernel⟩
theorem q_co_X8_requireTask : Cond.code yX8_requireTask cX8_requireTask 2 none ∈ gLW := List.mem_filter.mpr ⟨List.mem_of_getElem? (i := 576) (by decide +kernel), by decide +kernel⟩
theorem q_ml_X8_298 : Cond.methodLink RX8 298 yX5_hasTask ∈ gLW := List.mem_filter.mpr ⟨List.mem_of_getElem? (i := 577) (by decide +kernel), by decide +kernel⟩
theorem q_im_X5_hasTask : Cond.instanceMethod yX5_hasTask ∈ gLW := List.mem_filter.mpr ⟨List.mem_of_getElem? (i := 578) (by decide +kernel), by decide +kernel⟩
theorem q_se_X5_hasTask : Cond.selects RX5 yX5_hasTask yX5_hasTask ∈ gLW := List.mem_filter.mpr ⟨List.mem_of_getElem? (i := 579) (by decide +kernel), by decide +kernel⟩
theorem q_co_X5_hasTask : Cond.code yX5_hasTask cX5_hasTask 2 (some (Jvm.ClassFile.FieldType.boolean)) ∈ gLW := List.mem_filter.mpr ⟨List.mem_of_getElem? (i := 580) (by decide +kernel), by decide +kernel⟩
theorem q_cl_X8_186 : Cond.classLink RX8 186 "java/lang/IndexOutOfBoundsException" ∈ gLW := List.mem_filter.mpr ⟨List.mem_of_getElem? (i := 581) (by decide +kernel), by decide +kernel⟩
theorem q_ia_java_lang_IndexOutOfBoundsException : Cond.instantiable "java/lang/IndexOutOfBoundsException" 6 ∈ gLW := List.mem_filter.mpr ⟨List.mem_of_getElem? (i := 582) (by decide +kernel), by decide +kernel⟩
theorem q_ml_X8_190 : Cond.methodLink RX8 190 ⟨"java/lang/IndexOutOfBoundsException", "<init>", "(Ljava/lang/String;)V"⟩ ∈ gLW := List.mem_filter.mpr ⟨List.mem_of_getElem? (i := 591) (by decide +kernel), by decide +kernel⟩
theorem q_im_java_lang_IndexOutOfBoundsException__init___Ljava_lang_String_V : Cond.instanceMethod ⟨"java/lang/IndexOutOfBoundsException", "<init>", "(Ljava/lang/String;)V"⟩ ∈ gLW := List.mem_filter.mpr ⟨List.mem_of_getElem? (i := 592) (by decide +kernel), by decide +kernel⟩
theorem q_co_java_lang_IndexOutOfBoundsException__init___Ljava_lang_String_V : Cond.code ⟨"java/lang/IndexOutOfBoundsException", "<init>", "(Ljava/lang/String;)V"⟩ prog_15_method_2_code 2 none ∈ gLW := List.mem_filter.mpr ⟨List.mem_of_getElem? (i := 593) (by decide +kernel), by decide +kernel⟩
theorem q_ml_java_lang_IndexOutOfBoundsException_7 : Cond.methodLink "java/lang/IndexOutOfBoundsException" 7 ⟨"java/lang/RuntimeException", "<init>", "(Ljava/lang/String;)V"⟩ ∈ gLW := List.mem_filter.mpr ⟨List.mem_of_getElem? (i := 594) (by decide +kernel), by decide +kernel⟩
theorem q_ml_X8_122 : Cond.methodLink RX8 122 yX5_first ∈ gLW := List.mem_filter.mpr ⟨List.mem_of_getElem? (i := 598) (by decide +kernel), by decide +kernel⟩
theorem q_ml_X8_125 : Cond.methodLink RX8 125 yX5_putBar ∈ gLW := List.mem_filter.mpr ⟨List.mem_of_getElem? (i := 599) (by decide +kernel), by decide +kernel⟩
theorem q_ml_L_42 : Cond.methodLink RL 42 yL_unpoints ∈ gLW := List.mem_filter.mpr ⟨List.mem_of_getElem? (i := 601) (by decide +kernel), by decide +kernel⟩
theorem q_st_L_unpoints : Cond.static yL_unpoints ∈ gLW := List.mem_filter.mpr ⟨List.mem_of_getElem? (i := 602) (by decide +kernel), by decide +kernel⟩
theorem q_cw_L_unpoints : Cond.codeWith yL_unpoints cL_unpoints 3 (some (Jvm.ClassFile.FieldType.int)) [((0 : Nat), (5 : Nat), (6 : Nat), (82 : Nat))] ∈ gLW := List.mem_filter.mpr ⟨List.mem_of_getElem? (i := 603) (by decide +kernel), by decide +kernel⟩
theorem q_ml_L_91 : Cond.methodLink RL 91 yX8_removeArrow ∈ gLW := List.mem_filter.mpr ⟨List.mem_of_getElem? (i := 604) (by decide +kernel), by decide +kernel⟩
theorem q_im_X8_removeArrow : Cond.instanceMethod yX8_removeArrow ∈ gLW := List.mem_filter.mpr ⟨List.mem_of_getElem? (i := 605) (by decide +kernel), by decide +kernel⟩
theorem q_se_X8_removeArrow : Cond.selects RX8 yX8_removeArrow yX8_removeArrow ∈ gLW := List.mem_filter.mpr ⟨List.mem_of_getElem? (i := 606) (by decide +kernel), by decide +kernel⟩
theorem q_co_X8_removeArrow : Cond.code yX8_removeArrow cX8_removeArrow 2 (some (Jvm.ClassFile.FieldType.int)) ∈ gLW := List.mem_filter.mpr ⟨List.mem_of_getElem? (i := 607) (by decide +kernel), by decide +kernel⟩
theorem q_ml_X8_146 : Cond.methodLink RX8 146 yX8_requireArrow ∈ gLW := List.mem_filter.mpr ⟨List.mem_of_getElem? (i := 608) (by decide +kernel), by decide +kernel⟩
theorem q_im_X8_requireArrow : Cond.instanceMethod yX8_requireArrow ∈ gLW := List.mem_filter.mpr ⟨List.mem_of_getElem? (i := 610) (by decide +kernel), by decide +kernel⟩
theorem q_co_X8_requireArrow : Cond.code yX8_requireArrow cX8_requireArrow 2 none ∈ gLW := List.mem_filter.mpr ⟨List.mem_of_getElem? (i := 611) (by decide +kernel), by decide +kernel⟩
theorem q_ml_X8_304 : Cond.methodLink RX8 304 yX5_hasArrow ∈ gLW := List.mem_filter.mpr ⟨List.mem_of_getElem? (i := 612) (by decide +kernel), by decide +kernel⟩
theorem q_im_X5_hasArrow : Cond.instanceMethod yX5_hasArrow ∈ gLW := List.mem_filter.mpr ⟨List.mem_of_getElem? (i := 613) (by decide +kernel), by decide +kernel⟩
theorem q_se_X5_hasArrow : Cond.selects RX5 yX5_hasArrow yX5_hasArrow ∈ gLW := List.mem_filter.mpr ⟨List.mem_of_getElem? (i := 614) (by decide +kernel), by decide +kernel⟩
theorem q_co_X5_hasArrow : Cond.code yX5_hasArrow cX5_hasArrow 2 (some (Jvm.ClassFile.FieldType.boolean)) ∈ gLW := List.mem_filter.mpr ⟨List.mem_of_getElem? (i := 615) (by decide +kernel), by decide +kernel⟩
theorem q_ml_X8_149 : Cond.methodLink RX8 149 yX5_dropArrow ∈ gLW := List.mem_filter.mpr ⟨List.mem_of_getElem? (i := 617) (by decide +kernel), by decide +kernel⟩
theorem q_im_X5_dropArrow : Cond.instanceMethod yX5_dropArrow ∈ gLW := List.mem_filter.mpr ⟨List.mem_of_getElem? (i := 618) (by decide +kernel), by decide +kernel⟩
theorem q_se_X5_dropArrow : Cond.selects RX5 yX5_dropArrow yX5_dropArrow ∈ gLW := List.mem_filter.mpr ⟨List.mem_of_getElem? (i := 619) (by decide +kernel), by decide +kernel⟩
theorem q_co_X5_dropArrow : Cond.code yX5_dropArrow cX5_dropArrow 2 none ∈ gLW := List.mem_filter.mpr ⟨List.mem_of_getElem? (i := 620) (by decide +kernel), by decide +kernel⟩
theorem q_ml_X5_77 : Cond.methodLink RX5 77 yX5_hasArrow ∈ gLW := List.mem_filter.mpr ⟨List.mem_of_getElem? (i := 621) (by decide +kernel), by decide +kernel⟩
theorem q_ml_X5_80 : Cond.methodLink RX5 80 yX4_closeGap ∈ gLW := List.mem_filter.mpr ⟨List.mem_of_getElem? (i := 622) (by decide +kernel), by decide +kernel⟩
theorem q_im_X4_closeGap : Cond.instanceMethod yX4_closeGap ∈ gLW := List.mem_filter.mpr ⟨List.mem_of_getElem? (i := 623) (by decide +kernel), by decide +kernel⟩
theorem q_se_X4_closeGap : Cond.selects RX4 yX4_closeGap yX4_closeGap ∈ gLW := List.mem_filter.mpr ⟨List.mem_of_getElem? (i := 624) (by decide +kernel), by decide +kernel⟩
theorem q_co_X4_closeGap : Cond.code yX4_closeGap cX4_closeGap 3 none ∈ gLW := List.mem_filter.mpr ⟨List.mem_of_getElem? (i := 625) (by decide +kernel), by decide +kernel⟩
theorem q_ml_X8_137 : Cond.methodLink RX8 137 yX5_arrowCount ∈ gLW := List.mem_filter.mpr ⟨List.mem_of_getElem? (i := 626) (by decide +kernel), by decide +kernel⟩
theorem q_ml_L_47 : Cond.methodLink RL 47 yL_goes ∈ gLW := List.mem_filter.mpr ⟨List.mem_of_getElem? (i := 627) (by decide +kernel), by decide +kernel⟩
theorem q_st_L_goes : Cond.static yL_goes ∈ gLW := List.mem_filter.mpr ⟨List.mem_of_getElem? (i := 628) (by decide +kernel), by decide +kernel⟩
theorem q_co_L_goes : Cond.code yL_goes cL_goes 4 (some (Jvm.ClassFile.FieldType.boolean)) ∈ gLW := List.mem_filter.mpr ⟨List.mem_of_getElem? (i := 629) (by decide +kernel), by decide +kernel⟩
theorem q_ml_L_51 : Cond.methodLink RL 51 yL_drop ∈ gLW := List.mem_filter.mpr ⟨List.mem_of_getElem? (i := 630) (by decide +kernel), by decide +kernel⟩
theorem q_st_L_drop : Cond.static yL_drop ∈ gLW := List.mem_filter.mpr ⟨List.mem_of_getElem? (i := 631) (by decide +kernel), by decide +kernel⟩
theorem q_co_L_drop : Cond.code yL_drop cL_drop 4 none ∈ gLW := List.mem_filter.mpr ⟨List.mem_of_getElem? (i := 632) (by decide +kernel), by decide +kernel⟩
theorem q_ml_L_55 : Cond.methodLink RL 55 yL_drops ∈ gLW := List.mem_filter.mpr ⟨List.mem_of_getElem? (i := 633) (by decide +kernel), by decide +kernel⟩
theorem q_st_L_drops : Cond.static yL_drops ∈ gLW := List.mem_filter.mpr ⟨List.mem_of_getElem? (i := 634) (by decide +kernel), by decide +kernel⟩
theorem q_cw_L_drops : Cond.codeWith yL_drops cL_drops 3 (some (Jvm.ClassFile.FieldType.int)) [((0 : Nat), (5 : Nat), (6 : Nat), (82 : Nat))] ∈ gLW := List.mem_filter.mpr ⟨List.mem_of_getElem? (i := 635) (by decide +kernel), by decide +kernel⟩
theorem q_ml_L_84 : Cond.methodLink RL 84 yX8_removeTask ∈ gLW := List.mem_filter.mpr ⟨List.mem_of_getElem? (i := 636) (by decide +kernel), by decide +kernel⟩
theorem q_im_X8_removeTask : Cond.instanceMethod yX8_removeTask ∈ gLW := List.mem_filter.mpr ⟨List.mem_of_getElem? (i := 637) (by decide +kernel), by decide +kernel⟩
theorem q_se_X8_removeTask : Cond.selects RX8 yX8_removeTask yX8_removeTask ∈ gLW := List.mem_filter.mpr ⟨List.mem_of_getElem? (i := 638) (by decide +kernel), by decide +kernel⟩
theorem q_co_X8_removeTask : Cond.code yX8_removeTask cX8_removeTask 3 (some (Jvm.ClassFile.FieldType.int)) ∈ gLW := List.mem_filter.mpr ⟨List.mem_of_getElem? (i := 639) (by decide +kernel), by decide +kernel⟩
theorem q_ml_X8_129 : Cond.methodLink RX8 129 yX5_dropTask ∈ gLW := List.mem_filter.mpr ⟨List.mem_of_getElem? (i := 640) (by decide +kernel), by decide +kernel⟩
theorem q_im_X5_dropTask : Cond.instanceMethod yX5_dropTask ∈ gLW := List.mem_filter.mpr ⟨List.mem_of_getElem? (i := 641) (by decide +kernel), by decide +kernel⟩
theorem q_se_X5_dropTask : Cond.selects RX5 yX5_dropTask yX5_dropTask ∈ gLW := List.mem_filter.mpr ⟨List.mem_of_getElem? (i := 642) (by decide +kernel), by decide +kernel⟩
theorem q_co_X5_dropTask : Cond.code yX5_dropTask cX5_dropTask 2 (some (Jvm.ClassFile.FieldType.int)) ∈ gLW := List.mem_filter.mpr ⟨List.mem_of_getElem? (i := 643) (by decide +kernel), by decide +kernel⟩
theorem q_ml_X5_66 : Cond.methodLink RX5 66 yX5_hasTask ∈ gLW := List.mem_filter.mpr ⟨List.mem_of_getElem? (i := 644) (by decide +kernel), by decide +kernel⟩
theorem q_ml_X5_83 : Cond.methodLink RX5 83 yX5_dropArrowsOf ∈ gLW := List.mem_filter.mpr ⟨List.mem_of_getElem? (i := 645) (by decide +kernel), by decide +kernel⟩
theorem q_im_X5_dropArrowsOf : Cond.instanceMethod yX5_dropArrowsOf ∈ gLW := List.mem_filter.mpr ⟨List.mem_of_getElem? (i := 647) (by decide +kernel), by decide +kernel⟩
theorem q_co_X5_dropArrowsOf : Cond.code yX5_dropArrowsOf cX5_dropArrowsOf 6 (some (Jvm.ClassFile.FieldType.int)) ∈ gLW := List.mem_filter.mpr ⟨List.mem_of_getElem? (i := 648) (by decide +kernel), by decide +kernel⟩
theorem q_ml_X5_60 : Cond.methodLink RX5 60 yX5_from ∈ gLW := List.mem_filter.mpr ⟨List.mem_of_getElem? (i := 649) (by decide +kernel), by decide +kernel⟩
theorem q_ml_X5_54 : Cond.methodLink RX5 54 yX5_to ∈ gLW := List.mem_filter.mpr ⟨List.mem_of_getElem? (i := 650) (by decide +kernel), by decide +kernel⟩
theorem q_ml_L_58 : Cond.methodLink RL 58 yL_points ∈ gLW := List.mem_filter.mpr ⟨List.mem_of_getElem? (i := 651) (by decide +kernel), by decide +kernel⟩
theorem q_st_L_points : Cond.static yL_points ∈ gLW := List.mem_filter.mpr ⟨List.mem_of_getElem? (i := 652) (by decide +kernel), by decide +kernel⟩
theorem q_cw_L_points : Cond.codeWith yL_points cL_points 4 (some (Jvm.ClassFile.FieldType.int)) [((0 : Nat), (6 : Nat), (7 : Nat), (82 : Nat)), ((0 : Nat), (6 : Nat), (11 : Nat), (71 : Nat)), ((0 : Nat), (6 : Nat), (15 : Nat), (77 : Nat))] ∈ gLW := List.mem_filter.mpr ⟨List.mem_of_getElem? (i := 653) (by decide +kernel), by decide +kernel⟩
theorem q_ml_L_88 : Cond.methodLink RL 88 yX8_addArrow ∈ gLW := List.mem_filter.mpr ⟨List.mem_of_getElem? (i := 654) (by decide +kernel), by decide +kernel⟩
theorem q_im_X8_addArrow : Cond.instanceMethod yX8_addArrow ∈ gLW := List.mem_filter.mpr ⟨List.mem_of_getElem? (i := 655) (by decide +kernel), by decide +kernel⟩
theorem q_se_X8_addArrow : Cond.selects RX8 yX8_addArrow yX8_addArrow ∈ gLW := List.mem_filter.mpr ⟨List.mem_of_getElem? (i := 656) (by decide +kernel), by decide +kernel⟩
theorem q_co_X8_addArrow : Cond.code yX8_addArrow cX8_addArrow 4 (some (Jvm.ClassFile.FieldType.int)) ∈ gLW := List.mem_filter.mpr ⟨List.mem_of_getElem? (i := 657) (by decide +kernel), by decide +kernel⟩
theorem q_ml_X8_134 : Cond.methodLink RX8 134 yX5_hasArrowBetween ∈ gLW := List.mem_filter.mpr ⟨List.mem_of_getElem? (i := 659) (by decide +kernel), by decide +kernel⟩
theorem q_im_X5_hasArrowBetween : Cond.instanceMethod yX5_hasArrowBetween ∈ gLW := List.mem_filter.mpr ⟨List.mem_of_getElem? (i := 660) (by decide +kernel), by decide +kernel⟩
theorem q_se_X5_hasArrowBetween : Cond.selects RX5 yX5_hasArrowBetween yX5_hasArrowBetween ∈ gLW := List.mem_filter.mpr ⟨List.mem_of_getElem? (i := 661) (by decide +kernel), by decide +kernel⟩
theorem q_co_X5_hasArrowBetween : Cond.code yX5_hasArrowBetween cX5_hasArrowBetween 4 (some (Jvm.ClassFile.FieldType.boolean)) ∈ gLW := List.mem_filter.mpr ⟨List.mem_of_getElem? (i := 662) (by decide +kernel), by decide +kernel⟩
theorem q_ml_X8_142 : Cond.methodLink RX8 142 yX5_tellArrow ∈ gLW := List.mem_filter.mpr ⟨List.mem_of_getElem? (i := 664) (by decide +kernel), by decide +kernel⟩
theorem q_im_X5_tellArrow : Cond.instanceMethod yX5_tellArrow ∈ gLW := List.mem_filter.mpr ⟨List.mem_of_getElem? (i := 665) (by decide +kernel), by decide +kernel⟩
theorem q_se_X5_tellArrow : Cond.selects RX5 yX5_tellArrow yX5_tellArrow ∈ gLW := List.mem_filter.mpr ⟨List.mem_of_getElem? (i := 666) (by decide +kernel), by decide +kernel⟩
theorem q_co_X5_tellArrow : Cond.code yX5_tellArrow cX5_tellArrow 3 (some (Jvm.ClassFile.FieldType.int)) ∈ gLW := List.mem_filter.mpr ⟨List.mem_of_getElem? (i := 667) (by decide +kernel), by decide +kernel⟩
theorem q_ml_L_62 : Cond.methodLink RL 62 yL_indexOf ∈ gLW := List.mem_filter.mpr ⟨List.mem_of_getElem? (i := 668) (by decide +kernel), by decide +kernel⟩
theorem q_st_L_indexOf : Cond.static yL_indexOf ∈ gLW := List.mem_filter.mpr ⟨List.mem_of_getElem? (i := 669) (by decide +kernel), by decide +kernel⟩
theorem q_co_L_indexOf : Cond.code yL_indexOf cL_indexOf 6 (some (Jvm.ClassFile.FieldType.int)) ∈ gLW := List.mem_filter.mpr ⟨List.mem_of_getElem? (i := 670) (by decide +kernel), by decide +kernel⟩
theorem q_ml_L_142 : Cond.methodLink RL 142 yL_first ∈ gLW := List.mem_filter.mpr ⟨List.mem_of_getElem? (i := 671) (by decide +kernel), by decide +kernel⟩
theorem q_st_L_first : Cond.static yL_first ∈ gLW := List.mem_filter.mpr ⟨List.mem_of_getElem? (i := 672) (by decide +kernel), by decide +kernel⟩
theorem q_co_L_first : Cond.code yL_first cL_first 1 none ∈ gLW := List.mem_filter.mpr ⟨List.mem_of_getElem? (i := 673) (by decide +kernel), by decide +kernel⟩
theorem q_ml_L_122 : Cond.methodLink RL 122 yL_taskOf ∈ gLW := List.mem_filter.mpr ⟨List.mem_of_getElem? (i := 674) (by decide +kernel), by decide +kernel⟩
theorem q_st_L_taskOf : Cond.static yL_taskOf ∈ gLW := List.mem_filter.mpr ⟨List.mem_of_getElem? (i := 675) (by decide +kernel), by decide +kernel⟩
theorem q_cw_L_taskOf : Cond.codeWith yL_taskOf cL_taskOf 4 (some (Jvm.ClassFile.FieldType.int)) [((0 : Nat), (6 : Nat), (7 : Nat), (82 : Nat)), ((0 : Nat), (6 : Nat), (11 : Nat), (71 : Nat))] ∈ gLW := List.mem_filter.mpr ⟨List.mem_of_getElem? (i := 676) (by decide +kernel), by decide +kernel⟩
theorem q_ml_L_97 : Cond.methodLink RL 97 yX8_task ∈ gLW := List.mem_filter.mpr ⟨List.mem_of_getElem? (i := 677) (by decide +kernel), by decide +kernel⟩
theorem q_im_X8_task : Cond.instanceMethod yX8_task ∈ gLW := List.mem_filter.mpr ⟨List.mem_of_getElem? (i := 678) (by decide +kernel), by decide +kernel⟩
theorem q_se_X8_task : Cond.selects RX8 yX8_task yX8_task ∈ gLW := List.mem_filter.mpr ⟨List.mem_of_getElem? (i := 679) (by decide +kernel), by decide +kernel⟩
theorem q_co_X8_task : Cond.code yX8_task cX8_task 3 (some (Jvm.ClassFile.FieldType.int)) ∈ gLW := List.mem_filter.mpr ⟨List.mem_of_getElem? (i := 680) (by decide +kernel), by decide +kernel⟩
theorem q_ml_X8_154 : Cond.methodLink RX8 154 yX8_numberOfTask ∈ gLW := List.mem_filter.mpr ⟨List.mem_of_getElem? (i := 682) (by decide +kernel), by decide +kernel⟩
theorem q_im_X8_numberOfTask : Cond.instanceMethod yX8_numberOfTask ∈ gLW := List.mem_filter.mpr ⟨List.mem_of_getElem? (i := 684) (by decide +kernel), by decide +kernel⟩
theorem q_co_X8_numberOfTask : Cond.code yX8_numberOfTask cX8_numberOfTask 3 (some (Jvm.ClassFile.FieldType.int)) ∈ gLW := List.mem_filter.mpr ⟨List.mem_of_getElem? (i := 685) (by decide +kernel), by decide +kernel⟩
theorem q_ml_X8_326 : Cond.methodLink RX8 326 yX5_group ∈ gLW := List.mem_filter.mpr ⟨List.mem_of_getElem? (i := 686) (by decide +kernel), by decide +kernel⟩
theorem q_ml_X8_329 : Cond.methodLink RX8 329 yX5_length ∈ gLW := List.mem_filter.mpr ⟨List.mem_of_getElem? (i := 687) (by decide +kernel), by decide +kernel⟩
theorem q_im_X5_length : Cond.instanceMethod yX5_length ∈ gLW := List.mem_filter.mpr ⟨List.mem_of_getElem? (i := 688) (by decide +kernel), by decide +kernel⟩
theorem q_se_X5_length : Cond.selects RX5 yX5_length yX5_length ∈ gLW := List.mem_filter.mpr ⟨List.mem_of_getElem? (i := 689) (by decide +kernel), by decide +kernel⟩
theorem q_co_X5_length : Cond.code yX5_length cX5_length 2 (some (Jvm.ClassFile.FieldType.int)) ∈ gLW := List.mem_filter.mpr ⟨List.mem_of_getElem? (i := 690) (by decide +kernel), by decide +kernel⟩
theorem q_ml_X8_240 : Cond.methodLink RX8 240 yX5_last ∈ gLW := List.mem_filter.mpr ⟨List.mem_of_getElem? (i := 691) (by decide +kernel), by decide +kernel⟩
theorem q_ml_X8_325 : Cond.methodLink RX8 325 yX0_bandOf ∈ gLW := List.mem_filter.mpr ⟨List.mem_of_getElem? (i := 692) (by decide +kernel), by decide +kernel⟩
theorem q_ml_X8_331 : Cond.methodLink RX8 331 yX0_rowOf ∈ gLW := List.mem_filter.mpr ⟨List.mem_of_getElem? (i := 693) (by decide +kernel), by decide +kernel⟩
theorem q_im_X0_rowOf : Cond.instanceMethod yX0_rowOf ∈ gLW := List.mem_filter.mpr ⟨List.mem_of_getElem? (i := 694) (by decide +kernel), by decide +kernel⟩
theorem q_se_X0_rowOf : Cond.selects RX0 yX0_rowOf yX0_rowOf ∈ gLW := List.mem_filter.mpr ⟨List.mem_of_getElem? (i := 695) (by decide +kernel), by decide +kernel⟩
theorem q_co_X0_rowOf : Cond.code yX0_rowOf cX0_rowOf 2 (some (Jvm.ClassFile.FieldType.int)) ∈ gLW := List.mem_filter.mpr ⟨List.mem_of_getElem? (i := 696) (by decide +kernel), by decide +kernel⟩
theorem q_ml_X8_183 : Cond.methodLink RX8 183 yX8_partsOf ∈ gLW := List.mem_filter.mpr ⟨List.mem_of_getElem? (i := 697) (by decide +kernel), by decide +kernel⟩
theorem q_im_X8_partsOf : Cond.instanceMethod yX8_partsOf ∈ gLW := List.mem_filter.mpr ⟨List.mem_of_getElem? (i := 699) (by decide +kernel), by decide +kernel⟩
theorem q_co_X8_partsOf : Cond.code yX8_partsOf cX8_partsOf 3 (some (Jvm.ClassFile.FieldType.int)) ∈ gLW := List.mem_filter.mpr ⟨List.mem_of_getElem? (i := 700) (by decide +kernel), by decide +kernel⟩
theorem q_ml_X8_322 : Cond.methodLink RX8 322 yX8_stripOfDay ∈ gLW := List.mem_filter.mpr ⟨List.mem_of_getElem? (i := 701) (by decide +kernel), by decide +kernel⟩
theorem q_ml_L_158 : Cond.methodLink RL 158 yL_arrowBy ∈ gLW := List.mem_filter.mpr ⟨List.mem_of_getElem? (i := 702) (by decide +kernel), by decide +kernel⟩
theorem q_st_L_arrowBy : Cond.static yL_arrowBy ∈ gLW := List.mem_filter.mpr ⟨List.mem_of_getElem? (i := 703) (by decide +kernel), by decide +kernel⟩
theorem q_cw_L_arrowBy : Cond.codeWith yL_arrowBy cL_arrowBy 4 (some (Jvm.ClassFile.FieldType.int)) [((0 : Nat), (6 : Nat), (7 : Nat), (82 : Nat)), ((0 : Nat), (6 : Nat), (11 : Nat), (71 : Nat))] ∈ gLW := List.mem_filter.mpr ⟨List.mem_of_getElem? (i := 704) (by decide +kernel), by decide +kernel⟩
theorem q_ml_L_109 : Cond.methodLink RL 109 yX8_arrow ∈ gLW := List.mem_filter.mpr ⟨List.mem_of_getElem? (i := 705) (by decide +kernel), by decide +kernel⟩
theorem q_im_X8_arrow : Cond.instanceMethod yX8_arrow ∈ gLW := List.mem_filter.mpr ⟨List.mem_of_getElem? (i := 706) (by decide +kernel), by decide +kernel⟩
theorem q_se_X8_arrow : Cond.selects RX8 yX8_arrow yX8_arrow ∈ gLW := List.mem_filter.mpr ⟨List.mem_of_getElem? (i := 707) (by decide +kernel), by decide +kernel⟩
theorem q_co_X8_arrow : Cond.code yX8_arrow cX8_arrow 3 (some (Jvm.ClassFile.FieldType.int)) ∈ gLW := List.mem_filter.mpr ⟨List.mem_of_getElem? (i := 708) (by decide +kernel), by decide +kernel⟩
theorem q_ml_X8_198 : Cond.methodLink RX8 198 yX8_numberOfArrow ∈ gLW := List.mem_filter.mpr ⟨List.mem_of_getElem? (i := 710) (by decide +kernel), by decide +kernel⟩
theorem q_im_X8_numberOfArrow : Cond.instanceMethod yX8_numberOfArrow ∈ gLW := List.mem_filter.mpr ⟨List.mem_of_getElem? (i := 712) (by decide +kernel), by decide +kernel⟩
theorem q_co_X8_numberOfArrow : Cond.code yX8_numberOfArrow cX8_numberOfArrow 3 (some (Jvm.ClassFile.FieldType.int)) ∈ gLW := List.mem_filter.mpr ⟨List.mem_of_getElem? (i := 713) (by decide +kernel), by decide +kernel⟩
theorem q_ml_X8_237 : Cond.methodLink RX8 237 yX5_from ∈ gLW := List.mem_filter.mpr ⟨List.mem_of_getElem? (i := 714) (by decide +kernel), by decide +kernel⟩
theorem q_ml_X8_234 : Cond.methodLink RX8 234 yX5_to ∈ gLW := List.mem_filter.mpr ⟨List.mem_of_getElem? (i := 715) (by decide +kernel), by decide +kernel⟩
theorem q_ml_X8_346 : Cond.methodLink RX8 346 yX2_leavesOn ∈ gLW := List.mem_filter.mpr ⟨List.mem_of_getElem? (i := 716) (by decide +kernel), by decide +kernel⟩
theorem q_im_X2_leavesOn : Cond.instanceMethod yX2_leavesOn ∈ gLW := List.mem_filter.mpr ⟨List.mem_of_getElem? (i := 717) (by decide +kernel), by decide +kernel⟩
theorem q_se_X2_leavesOn : Cond.selects RX2 yX2_leavesOn yX2_leavesOn ∈ gLW := List.mem_filter.mpr ⟨List.mem_of_getElem? (i := 718) (by decide +kernel), by decide +kernel⟩
theorem q_co_X2_leavesOn : Cond.code yX2_leavesOn cX2_leavesOn 2 (some (Jvm.ClassFile.FieldType.int)) ∈ gLW := List.mem_filter.mpr ⟨List.mem_of_getElem? (i := 719) (by decide +kernel), by decide +kernel⟩
theorem q_ml_X2_39 : Cond.methodLink RX2 39 yX4_at ∈ gLW := List.mem_filter.mpr ⟨List.mem_of_getElem? (i := 720) (by decide +kernel), by decide +kernel⟩
theorem q_ml_X8_349 : Cond.methodLink RX8 349 yX2_arrivesOn ∈ gLW := List.mem_filter.mpr ⟨List.mem_of_getElem? (i := 721) (by decide +kernel), by decide +kernel⟩
theorem q_im_X2_arrivesOn : Cond.instanceMethod yX2_arrivesOn ∈ gLW := List.mem_filter.mpr ⟨List.mem_of_getElem? (i := 722) (by decide +kernel), by decide +kernel⟩
theorem q_se_X2_arrivesOn : Cond.selects RX2 yX2_arrivesOn yX2_arrivesOn ∈ gLW := List.mem_filter.mpr ⟨List.mem_of_getElem? (i := 723) (by decide +kernel), by decide +kernel⟩
theorem q_co_X2_arrivesOn : Cond.code yX2_arrivesOn cX2_arrivesOn 2 (some (Jvm.ClassFile.FieldType.int)) ∈ gLW := List.mem_filter.mpr ⟨List.mem_of_getElem? (i := 724) (by decide +kernel), by decide +kernel⟩
theorem q_ml_X8_352 : Cond.methodLink RX8 352 yX2_exitOf ∈ gLW := List.mem_filter.mpr ⟨List.mem_of_getElem? (i := 725) (by decide +kernel), by decide +kernel⟩
theorem q_im_X2_exitOf : Cond.instanceMethod yX2_exitOf ∈ gLW := List.mem_filter.mpr ⟨List.mem_of_getElem? (i := 726) (by decide +kernel), by decide +kernel⟩
theorem q_se_X2_exitOf : Cond.selects RX2 yX2_exitOf yX2_exitOf ∈ gLW := List.mem_filter.mpr ⟨List.mem_of_getElem? (i := 727) (by decide +kernel), by decide +kernel⟩
theorem q_co_X2_exitOf : Cond.code yX2_exitOf cX2_exitOf 2 (some (Jvm.ClassFile.FieldType.int)) ∈ gLW := List.mem_filter.mpr ⟨List.mem_of_getElem? (i := 728) (by decide +kernel), by decide +kernel⟩
theorem q_ml_X8_355 : Cond.methodLink RX8 355 yX5_isLate ∈ gLW := List.mem_filter.mpr ⟨List.mem_of_getElem? (i := 729) (by decide +kernel), by decide +kernel⟩
theorem q_im_X5_isLate : Cond.instanceMethod yX5_isLate ∈ gLW := List.mem_filter.mpr ⟨List.mem_of_getElem? (i := 730) (by decide +kernel), by decide +kernel⟩
theorem q_se_X5_isLate : Cond.selects RX5 yX5_isLate yX5_isLate ∈ gLW := List.mem_filter.mpr ⟨List.mem_of_getElem? (i := 731) (by decide +kernel), by decide +kernel⟩
theorem q_co_X5_isLate : Cond.code yX5_isLate cX5_isLate 2 (some (Jvm.ClassFile.FieldType.boolean)) ∈ gLW := List.mem_filter.mpr ⟨List.mem_of_getElem? (i := 732) (by decide +kernel), by decide +kernel⟩
theorem q_ml_X5_57 : Cond.methodLink RX5 57 yX5_first ∈ gLW := List.mem_filter.mpr ⟨List.mem_of_getElem? (i := 733) (by decide +kernel), by decide +kernel⟩
theorem q_ml_X5_63 : Cond.methodLink RX5 63 yX5_last ∈ gLW := List.mem_filter.mpr ⟨List.mem_of_getElem? (i := 734) (by decide +kernel), by decide +kernel⟩
theorem q_ml_L_146 : Cond.methodLink RL 146 yL_isSo ∈ gLW := List.mem_filter.mpr ⟨List.mem_of_getElem? (i := 735) (by decide +kernel), by decide +kernel⟩
theorem q_st_L_isSo : Cond.static yL_isSo ∈ gLW := List.mem_filter.mpr ⟨List.mem_of_getElem? (i := 736) (by decide +kernel), by decide +kernel⟩
set_option maxRecDepth 100000 in
theorem q_co_L_isSo : Cond.code yL_isSo cL_isSo 16 (some (Jvm.ClassFile.FieldType.boolean)) ∈ gLW := List.mem_filter.mpr ⟨List.mem_of_getElem? (i := 737) (by rfl), by decide +kernel⟩
theorem q_ml_L_112 : Cond.methodLink RL 112 yL_bands ∈ gLW := List.mem_filter.mpr ⟨List.mem_of_getElem? (i := 738) (by decide +kernel), by decide +kernel⟩
theorem q_st_L_bands : Cond.static yL_bands ∈ gLW := List.mem_filter.mpr ⟨List.mem_of_getElem? (i := 739) (by decide +kernel), by decide +kernel⟩
theorem q_co_L_bands : Cond.code yL_bands cL_bands 11 (some (Jvm.ClassFile.FieldType.int)) ∈ gLW := List.mem_filter.mpr ⟨List.mem_of_getElem? (i := 740) (by decide +kernel), by decide +kernel⟩
theorem q_ml_L_15 : Cond.methodLink RL 15 yL_next ∈ gLW := List.mem_filter.mpr ⟨List.mem_of_getElem? (i := 741) (by decide +kernel), by decide +kernel⟩
theorem q_st_L_next : Cond.static yL_next ∈ gLW := List.mem_filter.mpr ⟨List.mem_of_getElem? (i := 742) (by decide +kernel), by decide +kernel⟩
theorem q_co_L_next : Cond.code yL_next cL_next 6 (some (Jvm.ClassFile.FieldType.int)) ∈ gLW := List.mem_filter.mpr ⟨List.mem_of_getElem? (i := 743) (by decide +kernel), by decide +kernel⟩
theorem q_ml_L_9 : Cond.methodLink RL 9 yL_key ∈ gLW := List.mem_filter.mpr ⟨List.mem_of_getElem? (i := 744) (by decide +kernel), by decide +kernel⟩
theorem q_st_L_key : Cond.static yL_key ∈ gLW := List.mem_filter.mpr ⟨List.mem_of_getElem? (i := 745) (by decide +kernel), by decide +kernel⟩
theorem q_co_L_key : Cond.code yL_key cL_key 3 (some (Jvm.ClassFile.FieldType.int)) ∈ gLW := List.mem_filter.mpr ⟨List.mem_of_getElem? (i := 746) (by decide +kernel), by decide +kernel⟩
theorem q_ml_L_19 : Cond.methodLink RL 19 yL_size ∈ gLW := List.mem_filter.mpr ⟨List.mem_of_getElem? (i := 747) (by decide +kernel), by decide +kernel⟩
theorem q_st_L_size : Cond.static yL_size ∈ gLW := List.mem_filter.mpr ⟨List.mem_of_getElem? (i := 748) (by decide +kernel), by decide +kernel⟩
theorem q_co_L_size : Cond.code yL_size cL_size 5 (some (Jvm.ClassFile.FieldType.int)) ∈ gLW := List.mem_filter.mpr ⟨List.mem_of_getElem? (i := 749) (by decide +kernel), by decide +kernel⟩
theorem q_ml_L_116 : Cond.methodLink RL 116 yX8_bands ∈ gLW := List.mem_filter.mpr ⟨List.mem_of_getElem? (i := 750) (by decide +kernel), by decide +kernel⟩
theorem q_im_X8_bands : Cond.instanceMethod yX8_bands ∈ gLW := List.mem_filter.mpr ⟨List.mem_of_getElem? (i := 751) (by decide +kernel), by decide +kernel⟩
theorem q_se_X8_bands : Cond.selects RX8 yX8_bands yX8_bands ∈ gLW := List.mem_filter.mpr ⟨List.mem_of_getElem? (i := 752) (by decide +kernel), by decide +kernel⟩
theorem q_co_X8_bands : Cond.code yX8_bands cX8_bands 1 (some (Jvm.ClassFile.FieldType.int)) ∈ gLW := List.mem_filter.mpr ⟨List.mem_of_getElem? (i := 753) (by decide +kernel), by decide +kernel⟩
theorem q_ml_X8_157 : Cond.methodLink RX8 157 yX0_count ∈ gLW := List.mem_filter.mpr ⟨List.mem_of_getElem? (i := 754) (by decide +kernel), by decide +kernel⟩
theorem q_ml_L_119 : Cond.methodLink RL 119 yL_valueOf ∈ gLW := List.mem_filter.mpr ⟨List.mem_of_getElem? (i := 755) (by decide +kernel), by decide +kernel⟩
theorem q_st_L_valueOf : Cond.static yL_valueOf ∈ gLW := List.mem_filter.mpr ⟨List.mem_of_getElem? (i := 756) (by decide +kernel), by decide +kernel⟩
theorem q_cw_L_valueOf : Cond.codeWith yL_valueOf cL_valueOf 3 (some (Jvm.ClassFile.FieldType.int)) [((0 : Nat), (5 : Nat), (6 : Nat), (71 : Nat))] ∈ gLW := List.mem_filter.mpr ⟨List.mem_of_getElem? (i := 757) (by decide +kernel), by decide +kernel⟩
theorem q_ml_L_94 : Cond.methodLink RL 94 yX8_value ∈ gLW := List.mem_filter.mpr ⟨List.mem_of_getElem? (i := 758) (by decide +kernel), by decide +kernel⟩
theorem q_im_X8_value : Cond.instanceMethod yX8_value ∈ gLW := List.mem_filter.mpr ⟨List.mem_of_getElem? (i := 759) (by decide +kernel), by decide +kernel⟩
theorem q_se_X8_value : Cond.selects RX8 yX8_value yX8_value ∈ gLW := List.mem_filter.mpr ⟨List.mem_of_getElem? (i := 760) (by decide +kernel), by decide +kernel⟩
theorem q_co_X8_value : Cond.code yX8_value cX8_value 2 (some (Jvm.ClassFile.FieldType.int)) ∈ gLW := List.mem_filter.mpr ⟨List.mem_of_getElem? (i := 761) (by decide +kernel), by decide +kernel⟩
theorem q_ml_X8_95 : Cond.methodLink RX8 95 yX8_numberOfPlan ∈ gLW := List.mem_filter.mpr ⟨List.mem_of_getElem? (i := 763) (by decide +kernel), by decide +kernel⟩
theorem q_im_X8_numberOfPlan : Cond.instanceMethod yX8_numberOfPlan ∈ gLW := List.mem_filter.mpr ⟨List.mem_of_getElem? (i := 765) (by decide +kernel), by decide +kernel⟩
theorem q_co_X8_numberOfPlan : Cond.code yX8_numberOfPlan cX8_numberOfPlan 2 (some (Jvm.ClassFile.FieldType.int)) ∈ gLW := List.mem_filter.mpr ⟨List.mem_of_getElem? (i := 766) (by decide +kernel), by decide +kernel⟩
theorem q_ml_L_22 : Cond.methodLink RL 22 yL_last ∈ gLW := List.mem_filter.mpr ⟨List.mem_of_getElem? (i := 767) (by decide +kernel), by decide +kernel⟩
theorem q_st_L_last : Cond.static yL_last ∈ gLW := List.mem_filter.mpr ⟨List.mem_of_getElem? (i := 768) (by decide +kernel), by decide +kernel⟩
theorem q_co_L_last : Cond.code yL_last cL_last 3 (some (Jvm.ClassFile.FieldType.int)) ∈ gLW := List.mem_filter.mpr ⟨List.mem_of_getElem? (i := 769) (by decide +kernel), by decide +kernel⟩
theorem q_ml_L_125 : Cond.methodLink RL 125 yL_delayOf ∈ gLW := List.mem_filter.mpr ⟨List.mem_of_getElem? (i := 770) (by decide +kernel), by decide +kernel⟩
theorem q_st_L_delayOf : Cond.static yL_delayOf ∈ gLW := List.mem_filter.mpr ⟨List.mem_of_getElem? (i := 771) (by decide +kernel), by decide +kernel⟩
theorem q_cw_L_delayOf : Cond.codeWith yL_delayOf cL_delayOf 3 (some (Jvm.ClassFile.FieldType.int)) [((0 : Nat), (5 : Nat), (6 : Nat), (82 : Nat))] ∈ gLW := List.mem_filter.mpr ⟨List.mem_of_getElem? (i := 772) (by decide +kernel), by decide +kernel⟩
theorem q_ml_L_106 : Cond.methodLink RL 106 yX8_delay ∈ gLW := List.mem_filter.mpr ⟨List.mem_of_getElem? (i := 773) (by decide +kernel), by decide +kernel⟩
theorem q_im_X8_delay : Cond.instanceMethod yX8_delay ∈ gLW := List.mem_filter.mpr ⟨List.mem_of_getElem? (i := 774) (by decide +kernel), by decide +kernel⟩
theorem q_se_X8_delay : Cond.selects RX8 yX8_delay yX8_delay ∈ gLW := List.mem_filter.mpr ⟨List.mem_of_getElem? (i := 775) (by decide +kernel), by decide +kernel⟩
theorem q_co_X8_delay : Cond.code yX8_delay cX8_delay 4 (some (Jvm.ClassFile.FieldType.int)) ∈ gLW := List.mem_filter.mpr ⟨List.mem_of_getElem? (i := 776) (by decide +kernel), by decide +kernel⟩
theorem q_ml_X8_243 : Cond.methodLink RX8 243 yJ9_max_7cf53 ∈ gLW := List.mem_filter.mpr ⟨List.mem_of_getElem? (i := 777) (by decide +kernel), by decide +kernel⟩
theorem q_st_J9_max_7cf53 : Cond.static yJ9_max_7cf53 ∈ gLW := List.mem_filter.mpr ⟨List.mem_of_getElem? (i := 778) (by decide +kernel), by decide +kernel⟩
theorem q_co_J9_max_7cf53 : Cond.code yJ9_max_7cf53 prog_16_method_65_code 2 (some (Jvm.ClassFile.FieldType.int)) ∈ gLW := List.mem_filter.mpr ⟨List.mem_of_getElem? (i := 779) (by decide +kernel), by decide +kernel⟩
theorem q_ml_L_128 : Cond.methodLink RL 128 yL_partOf ∈ gLW := List.mem_filter.mpr ⟨List.mem_of_getElem? (i := 780) (by decide +kernel), by decide +kernel⟩
theorem q_st_L_partOf : Cond.static yL_partOf ∈ gLW := List.mem_filter.mpr ⟨List.mem_of_getElem? (i := 781) (by decide +kernel), by decide +kernel⟩
theorem q_cw_L_partOf : Cond.codeWith yL_partOf cL_partOf 5 (some (Jvm.ClassFile.FieldType.int)) [((0 : Nat), (7 : Nat), (8 : Nat), (82 : Nat)), ((0 : Nat), (7 : Nat), (13 : Nat), (71 : Nat))] ∈ gLW := List.mem_filter.mpr ⟨List.mem_of_getElem? (i := 782) (by decide +kernel), by decide +kernel⟩
theorem q_ml_L_103 : Cond.methodLink RL 103 yX8_part ∈ gLW := List.mem_filter.mpr ⟨List.mem_of_getElem? (i := 783) (by decide +kernel), by decide +kernel⟩
theorem q_im_X8_part : Cond.instanceMethod yX8_part ∈ gLW := List.mem_filter.mpr ⟨List.mem_of_getElem? (i := 784) (by decide +kernel), by decide +kernel⟩
theorem q_se_X8_part : Cond.selects RX8 yX8_part yX8_part ∈ gLW := List.mem_filter.mpr ⟨List.mem_of_getElem? (i := 785) (by decide +kernel), by decide +kernel⟩
theorem q_co_X8_part : Cond.code yX8_part cX8_part 4 (some (Jvm.ClassFile.FieldType.int)) ∈ gLW := List.mem_filter.mpr ⟨List.mem_of_getElem? (i := 786) (by decide +kernel), by decide +kernel⟩
theorem q_ml_X8_193 : Cond.methodLink RX8 193 yX8_numberOfPart ∈ gLW := List.mem_filter.mpr ⟨List.mem_of_getElem? (i := 789) (by decide +kernel), by decide +kernel⟩
theorem q_im_X8_numberOfPart : Cond.instanceMethod yX8_numberOfPart ∈ gLW := List.mem_filter.mpr ⟨List.mem_of_getElem? (i := 791) (by decide +kernel), by decide +kernel⟩
theorem q_co_X8_numberOfPart : Cond.code yX8_numberOfPart cX8_numberOfPart 9 (some (Jvm.ClassFile.FieldType.int)) ∈ gLW := List.mem_filter.mpr ⟨List.mem_of_getElem? (i := 792) (by decide +kernel), by decide +kernel⟩
theorem q_ml_X8_343 : Cond.methodLink RX8 343 yJ9_min_7cf53 ∈ gLW := List.mem_filter.mpr ⟨List.mem_of_getElem? (i := 793) (by decide +kernel), by decide +kernel⟩
theorem q_st_J9_min_7cf53 : Cond.static yJ9_min_7cf53 ∈ gLW := List.mem_filter.mpr ⟨List.mem_of_getElem? (i := 794) (by decide +kernel), by decide +kernel⟩
theorem q_co_J9_min_7cf53 : Cond.code yJ9_min_7cf53 prog_16_method_69_code 2 (some (Jvm.ClassFile.FieldType.int)) ∈ gLW := List.mem_filter.mpr ⟨List.mem_of_getElem? (i := 795) (by decide +kernel), by decide +kernel⟩
theorem q_ml_X8_180 : Cond.methodLink RX8 180 yX6_numberAt ∈ gLW := List.mem_filter.mpr ⟨List.mem_of_getElem? (i := 796) (by decide +kernel), by decide +kernel⟩
theorem q_ml_L_131 : Cond.methodLink RL 131 yL_rowOf ∈ gLW := List.mem_filter.mpr ⟨List.mem_of_getElem? (i := 797) (by decide +kernel), by decide +kernel⟩
theorem q_st_L_rowOf : Cond.static yL_rowOf ∈ gLW := List.mem_filter.mpr ⟨List.mem_of_getElem? (i := 798) (by decide +kernel), by decide +kernel⟩
theorem q_cw_L_rowOf : Cond.codeWith yL_rowOf cL_rowOf 4 (some (Jvm.ClassFile.FieldType.int)) [((0 : Nat), (6 : Nat), (7 : Nat), (82 : Nat))] ∈ gLW := List.mem_filter.mpr ⟨List.mem_of_getElem? (i := 799) (by decide +kernel), by decide +kernel⟩
theorem q_ml_L_100 : Cond.methodLink RL 100 yX8_row ∈ gLW := List.mem_filter.mpr ⟨List.mem_of_getElem? (i := 800) (by decide +kernel), by decide +kernel⟩
theorem q_im_X8_row : Cond.instanceMethod yX8_row ∈ gLW := List.mem_filter.mpr ⟨List.mem_of_getElem? (i := 801) (by decide +kernel), by decide +kernel⟩
theorem q_se_X8_row : Cond.selects RX8 yX8_row yX8_row ∈ gLW := List.mem_filter.mpr ⟨List.mem_of_getElem? (i := 802) (by decide +kernel), by decide +kernel⟩
theorem q_co_X8_row : Cond.code yX8_row cX8_row 3 (some (Jvm.ClassFile.FieldType.int)) ∈ gLW := List.mem_filter.mpr ⟨List.mem_of_getElem? (i := 803) (by decide +kernel), by decide +kernel⟩
theorem q_ml_X8_160 : Cond.methodLink RX8 160 yX8_requireBand ∈ gLW := List.mem_filter.mpr ⟨List.mem_of_getElem? (i := 804) (by decide +kernel), by decide +kernel⟩
theorem q_im_X8_requireBand : Cond.instanceMethod yX8_requireBand ∈ gLW := List.mem_filter.mpr ⟨List.mem_of_getElem? (i := 806) (by decide +kernel), by decide +kernel⟩
theorem q_co_X8_requireBand : Cond.code yX8_requireBand cX8_requireBand 2 none ∈ gLW := List.mem_filter.mpr ⟨List.mem_of_getElem? (i := 807) (by decide +kernel), by decide +kernel⟩
theorem q_ml_X8_163 : Cond.methodLink RX8 163 yX8_requireRow ∈ gLW := List.mem_filter.mpr ⟨List.mem_of_getElem? (i := 809) (by decide +kernel), by decide +kernel⟩
theorem q_im_X8_requireRow : Cond.instanceMethod yX8_requireRow ∈ gLW := List.mem_filter.mpr ⟨List.mem_of_getElem? (i := 811) (by decide +kernel), by decide +kernel⟩
theorem q_co_X8_requireRow : Cond.code yX8_requireRow cX8_requireRow 2 none ∈ gLW := List.mem_filter.mpr ⟨List.mem_of_getElem? (i := 812) (by decide +kernel), by decide +kernel⟩
theorem q_ml_X8_166 : Cond.methodLink RX8 166 yX0_content ∈ gLW := List.mem_filter.mpr ⟨List.mem_of_getElem? (i := 814) (by decide +kernel), by decide +kernel⟩
theorem q_im_X0_content : Cond.instanceMethod yX0_content ∈ gLW := List.mem_filter.mpr ⟨List.mem_of_getElem? (i := 815) (by decide +kernel), by decide +kernel⟩
theorem q_se_X0_content : Cond.selects RX0 yX0_content yX0_content ∈ gLW := List.mem_filter.mpr ⟨List.mem_of_getElem? (i := 816) (by decide +kernel), by decide +kernel⟩
theorem q_co_X0_content : Cond.code yX0_content cX0_content 3 (some (Jvm.ClassFile.FieldType.int)) ∈ gLW := List.mem_filter.mpr ⟨List.mem_of_getElem? (i := 817) (by decide +kernel), by decide +kernel⟩
theorem q_ml_L_134 : Cond.methodLink RL 134 yX8_longestChain ∈ gLW := List.mem_filter.mpr ⟨List.mem_of_getElem? (i := 818) (by decide +kernel), by decide +kernel⟩
theorem q_im_X8_longestChain : Cond.instanceMethod yX8_longestChain ∈ gLW := List.mem_filter.mpr ⟨List.mem_of_getElem? (i := 819) (by decide +kernel), by decide +kernel⟩
theorem q_se_X8_longestChain : Cond.selects RX8 yX8_longestChain yX8_longestChain ∈ gLW := List.mem_filter.mpr ⟨List.mem_of_getElem? (i := 820) (by decide +kernel), by decide +kernel⟩
theorem q_co_X8_longestChain : Cond.code yX8_longestChain cX8_longestChain 1 (some (Jvm.ClassFile.FieldType.int)) ∈ gLW := List.mem_filter.mpr ⟨List.mem_of_getElem? (i := 821) (by decide +kernel), by decide +kernel⟩
theorem q_ml_X8_248 : Cond.methodLink RX8 248 yX1_longest ∈ gLW := List.mem_filter.mpr ⟨List.mem_of_getElem? (i := 822) (by decide +kernel), by decide +kernel⟩
theorem q_im_X1_longest : Cond.instanceMethod yX1_longest ∈ gLW := List.mem_filter.mpr ⟨List.mem_of_getElem? (i := 823) (by decide +kernel), by decide +kernel⟩
theorem q_se_X1_longest : Cond.selects RX1 yX1_longest yX1_longest ∈ gLW := List.mem_filter.mpr ⟨List.mem_of_getElem? (i := 824) (by decide +kernel), by decide +kernel⟩
theorem q_co_X1_longest : Cond.code yX1_longest cX1_longest 5 (some (Jvm.ClassFile.FieldType.int)) ∈ gLW := List.mem_filter.mpr ⟨List.mem_of_getElem? (i := 825) (by decide +kernel), by decide +kernel⟩
theorem q_ml_X1_20 : Cond.methodLink RX1 20 yX5_taskCount ∈ gLW := List.mem_filter.mpr ⟨List.mem_of_getElem? (i := 826) (by decide +kernel), by decide +kernel⟩
theorem q_ml_X1_26 : Cond.methodLink RX1 26 yX4_fill ∈ gLW := List.mem_filter.mpr ⟨List.mem_of_getElem? (i := 827) (by decide +kernel), by decide +kernel⟩
theorem q_ml_X1_30 : Cond.methodLink RX1 30 yX1_growOnce ∈ gLW := List.mem_filter.mpr ⟨List.mem_of_getElem? (i := 828) (by decide +kernel), by decide +kernel⟩
theorem q_im_X1_growOnce : Cond.instanceMethod yX1_growOnce ∈ gLW := List.mem_filter.mpr ⟨List.mem_of_getElem? (i := 830) (by decide +kernel), by decide +kernel⟩
theorem q_co_X1_growOnce : Cond.code yX1_growOnce cX1_growOnce 5 (some (Jvm.ClassFile.FieldType.boolean)) ∈ gLW := List.mem_filter.mpr ⟨List.mem_of_getElem? (i := 831) (by decide +kernel), by decide +kernel⟩
theorem q_ml_X1_44 : Cond.methodLink RX1 44 yX5_arrowCount ∈ gLW := List.mem_filter.mpr ⟨List.mem_of_getElem? (i := 832) (by decide +kernel), by decide +kernel⟩
theorem q_ml_X1_47 : Cond.methodLink RX1 47 yX5_from ∈ gLW := List.mem_filter.mpr ⟨List.mem_of_getElem? (i := 833) (by decide +kernel), by decide +kernel⟩
theorem q_ml_X1_34 : Cond.methodLink RX1 34 yX4_at ∈ gLW := List.mem_filter.mpr ⟨List.mem_of_getElem? (i := 834) (by decide +kernel), by decide +kernel⟩
theorem q_ml_X1_50 : Cond.methodLink RX1 50 yX5_isLate ∈ gLW := List.mem_filter.mpr ⟨List.mem_of_getElem? (i := 835) (by decide +kernel), by decide +kernel⟩
theorem q_ml_X1_54 : Cond.methodLink RX1 54 yX5_to ∈ gLW := List.mem_filter.mpr ⟨List.mem_of_getElem? (i := 836) (by decide +kernel), by decide +kernel⟩
theorem q_ml_X1_57 : Cond.methodLink RX1 57 yX4_put ∈ gLW := List.mem_filter.mpr ⟨List.mem_of_getElem? (i := 837) (by decide +kernel), by decide +kernel⟩
theorem q_ml_X1_38 : Cond.methodLink RX1 38 yJ9_max_7cf53 ∈ gLW := List.mem_filter.mpr ⟨List.mem_of_getElem? (i := 838) (by decide +kernel), by decide +kernel⟩
theorem q_ml_L_137 : Cond.methodLink RL 137 yL_chain ∈ gLW := List.mem_filter.mpr ⟨List.mem_of_getElem? (i := 839) (by decide +kernel), by decide +kernel⟩
theorem q_st_L_chain : Cond.static yL_chain ∈ gLW := List.mem_filter.mpr ⟨List.mem_of_getElem? (i := 840) (by decide +kernel), by decide +kernel⟩
theorem q_co_L_chain : Cond.code yL_chain cL_chain 11 (some (Jvm.ClassFile.FieldType.int)) ∈ gLW := List.mem_filter.mpr ⟨List.mem_of_getElem? (i := 841) (by decide +kernel), by decide +kernel⟩
theorem q_ws_X0 : ∀ w ∈ u_ws RX0 TX0 8, w ∈ gLW := gLW_in [164, 166, 168, 170, 172, 174, 176, 178] (by decide +kernel) (by decide +kernel)
theorem q_ws_X1 : ∀ w ∈ u_ws RX1 TX1 1, w ∈ gLW := gLW_in [145] (by decide +kernel) (by decide +kernel)
theorem q_ws_X2 : ∀ w ∈ u_ws RX2 TX2 7, w ∈ gLW := gLW_in [220, 222, 224, 226, 228, 230, 232] (by decide +kernel) (by decide +kernel)
theorem q_ws_X3 : ∀ w ∈ u_ws RX3 TX3 3, w ∈ gLW := gLW_in [109, 111, 113] (by decide +kernel) (by decide +kernel)
theorem q_ws_X4 : ∀ w ∈ u_ws RX4 TX4 1, w ∈ gLW := gLW_in [62] (by decide +kernel) (by decide +kernel)
theorem q_ws_X5 : ∀ w ∈ u_ws RX5 TX5 8, w ∈ gLW := gLW_in [80, 82, 84, 86, 88, 90, 92, 94] (by decide +kernel) (by decide +kernel)
theorem q_ws_X6 : ∀ w ∈ u_ws RX6 TX6 5, w ∈ gLW := gLW_in [194, 196, 198, 200, 202] (by decide +kernel) (by decide +kernel)
theorem q_ws_X7 : ∀ w ∈ u_ws RX7 TX7 5, w ∈ gLW := gLW_in [125, 127, 129, 131, 133] (by decide +kernel) (by decide +kernel)
theorem q_ws_X8 : ∀ w ∈ u_ws RX8 TX8 10, w ∈ gLW := gLW_in [245, 247, 249, 251, 253, 255, 257, 259, 261, 263] (by decide +kernel) (by decide +kernel)
