/-! the words of the tables that hold on, and each one by its place -/
def gLW : List Cond := lw_tbl.filter goodWord
theorem gLW_tbl : ∀ w ∈ gLW, w ∈ lw_tbl := fun _ h => (List.mem_filter.mp h).1
theorem gLW_good {w : Cond} (h : w ∈ gLW) : goodWord w = true := (List.mem_filter.mp h).2
theorem gLW_in {ws : List Cond} (ps : List Nat) (hp : ws = ps.filterMap (fun i => lw_tbl[i]?)) (hg : ws.all goodWord = true) : ∀ w ∈ ws, w ∈ gLW := by
  intro w hw
  have h1 := List.all_eq_true.mp hg w hw
  rw [hp] at hw
  obtain ⟨i, -, hi⟩ := List.mem_filterMap.mp hw
  exact List.mem_filter.mpr ⟨List.mem_of_getElem? hi, h1⟩
theorem q_se_X8_exitsWith : Cond.selects RX8 yX8_exitsWith yX8_exitsWith ∈ gLW := List.mem_filter.mpr ⟨List.mem_of_getElem? (i := 0) (by decide +kernel), by decide +kernel⟩
theorem q_se_X1_growOnce : Cond.selects RX1 yX1_growOnce yX1_growOnce ∈ gLW := List.mem_filter.mpr ⟨List.mem_of_getElem? (i := 1) (by decide +kernel), by decide +kernel⟩
theorem q_se_X7_next : Cond.selects RX7 yX7_next yX7_next ∈ gLW := List.mem_filter.mpr ⟨List.mem_of_getElem? (i := 2) (by decide +kernel), by decide +kernel⟩
theorem q_se_X7_readTask : Cond.selects RX7 yX7_readTask yX7_readTask ∈ gLW := List.mem_filter.mpr ⟨List.mem_of_getElem? (i := 3) (by decide +kernel), by decide +kernel⟩
theorem q_se_X7_fail : Cond.selects RX7 yX7_fail yX7_fail ∈ gLW := List.mem_filter.mpr ⟨List.mem_of_getElem? (i := 4) (by decide +kernel), by decide +kernel⟩
theorem q_se_X7_readSign : Cond.selects RX7 yX7_readSign yX7_readSign ∈ gLW := List.mem_filter.mpr ⟨List.mem_of_getElem? (i := 5) (by decide +kernel), by decide +kernel⟩
theorem q_se_X7_readNumber : Cond.selects RX7 yX7_readNumber yX7_readNumber ∈ gLW := List.mem_filter.mpr ⟨List.mem_of_getElem? (i := 6) (by decide +kernel), by decide +kernel⟩
theorem q_se_X7_nextIsDigit : Cond.selects RX7 yX7_nextIsDigit yX7_nextIsDigit ∈ gLW := List.mem_filter.mpr ⟨List.mem_of_getElem? (i := 7) (by decide +kernel), by decide +kernel⟩
theorem q_se_X7_readArrow : Cond.selects RX7 yX7_readArrow yX7_readArrow ∈ gLW := List.mem_filter.mpr ⟨List.mem_of_getElem? (i := 8) (by decide +kernel), by decide +kernel⟩
theorem q_se_X3_slot : Cond.selects RX3 yX3_slot yX3_slot ∈ gLW := List.mem_filter.mpr ⟨List.mem_of_getElem? (i := 9) (by decide +kernel), by decide +kernel⟩
theorem q_se_X8_printAnew : Cond.selects RX8 yX8_printAnew yX8_printAnew ∈ gLW := List.mem_filter.mpr ⟨List.mem_of_getElem? (i := 10) (by decide +kernel), by decide +kernel⟩
theorem q_se_X0_gather : Cond.selects RX0 yX0_gather yX0_gather ∈ gLW := List.mem_filter.mpr ⟨List.mem_of_getElem? (i := 11) (by decide +kernel), by decide +kernel⟩
theorem q_se_X0_insert : Cond.selects RX0 yX0_insert yX0_insert ∈ gLW := List.mem_filter.mpr ⟨List.mem_of_getElem? (i := 12) (by decide +kernel), by decide +kernel⟩
theorem q_se_X0_layGroup : Cond.selects RX0 yX0_layGroup yX0_layGroup ∈ gLW := List.mem_filter.mpr ⟨List.mem_of_getElem? (i := 13) (by decide +kernel), by decide +kernel⟩
theorem q_se_X0_beginBand : Cond.selects RX0 yX0_beginBand yX0_beginBand ∈ gLW := List.mem_filter.mpr ⟨List.mem_of_getElem? (i := 14) (by decide +kernel), by decide +kernel⟩
theorem q_se_X0_take : Cond.selects RX0 yX0_take yX0_take ∈ gLW := List.mem_filter.mpr ⟨List.mem_of_getElem? (i := 15) (by decide +kernel), by decide +kernel⟩
theorem q_se_X6_numberByBands : Cond.selects RX6 yX6_numberByBands yX6_numberByBands ∈ gLW := List.mem_filter.mpr ⟨List.mem_of_getElem? (i := 16) (by decide +kernel), by decide +kernel⟩
theorem q_se_X6_number : Cond.selects RX6 yX6_number yX6_number ∈ gLW := List.mem_filter.mpr ⟨List.mem_of_getElem? (i := 17) (by decide +kernel), by decide +kernel⟩
theorem q_se_X6_numberByStrips : Cond.selects RX6 yX6_numberByStrips yX6_numberByStrips ∈ gLW := List.mem_filter.mpr ⟨List.mem_of_getElem? (i := 18) (by decide +kernel), by decide +kernel⟩
theorem q_se_X2_drawInside : Cond.selects RX2 yX2_drawInside yX2_drawInside ∈ gLW := List.mem_filter.mpr ⟨List.mem_of_getElem? (i := 19) (by decide +kernel), by decide +kernel⟩
theorem q_se_X2_drawThroughExit : Cond.selects RX2 yX2_drawThroughExit yX2_drawThroughExit ∈ gLW := List.mem_filter.mpr ⟨List.mem_of_getElem? (i := 20) (by decide +kernel), by decide +kernel⟩
theorem q_se_X8_numberOfPlan : Cond.selects RX8 yX8_numberOfPlan yX8_numberOfPlan ∈ gLW := List.mem_filter.mpr ⟨List.mem_of_getElem? (i := 21) (by decide +kernel), by decide +kernel⟩
theorem q_se_X8_digestTasks : Cond.selects RX8 yX8_digestTasks yX8_digestTasks ∈ gLW := List.mem_filter.mpr ⟨List.mem_of_getElem? (i := 22) (by decide +kernel), by decide +kernel⟩
theorem q_se_X8_numberOfTask : Cond.selects RX8 yX8_numberOfTask yX8_numberOfTask ∈ gLW := List.mem_filter.mpr ⟨List.mem_of_getElem? (i := 23) (by decide +kernel), by decide +kernel⟩
theorem q_se_X8_partsOf : Cond.selects RX8 yX8_partsOf yX8_partsOf ∈ gLW := List.mem_filter.mpr ⟨List.mem_of_getElem? (i := 24) (by decide +kernel), by decide +kernel⟩
theorem q_se_X8_digestBands : Cond.selects RX8 yX8_digestBands yX8_digestBands ∈ gLW := List.mem_filter.mpr ⟨List.mem_of_getElem? (i := 25) (by decide +kernel), by decide +kernel⟩
theorem q_se_X8_digestSheets : Cond.selects RX8 yX8_digestSheets yX8_digestSheets ∈ gLW := List.mem_filter.mpr ⟨List.mem_of_getElem? (i := 26) (by decide +kernel), by decide +kernel⟩
theorem q_se_X8_numberOfSheet : Cond.selects RX8 yX8_numberOfSheet yX8_numberOfSheet ∈ gLW := List.mem_filter.mpr ⟨List.mem_of_getElem? (i := 27) (by decide +kernel), by decide +kernel⟩
theorem q_se_X8_digestArrows : Cond.selects RX8 yX8_digestArrows yX8_digestArrows ∈ gLW := List.mem_filter.mpr ⟨List.mem_of_getElem? (i := 28) (by decide +kernel), by decide +kernel⟩
theorem q_se_X8_numberOfArrow : Cond.selects RX8 yX8_numberOfArrow yX8_numberOfArrow ∈ gLW := List.mem_filter.mpr ⟨List.mem_of_getElem? (i := 29) (by decide +kernel), by decide +kernel⟩
theorem q_se_X8_requireTask : Cond.selects RX8 yX8_requireTask yX8_requireTask ∈ gLW := List.mem_filter.mpr ⟨List.mem_of_getElem? (i := 31) (by decide +kernel), by decide +kernel⟩
theorem q_se_X5_dropArrowsOf : Cond.selects RX5 yX5_dropArrowsOf yX5_dropArrowsOf ∈ gLW := List.mem_filter.mpr ⟨List.mem_of_getElem? (i := 32) (by decide +kernel), by decide +kernel⟩
theorem q_se_X8_requireArrow : Cond.selects RX8 yX8_requireArrow yX8_requireArrow ∈ gLW := List.mem_filter.mpr ⟨List.mem_of_getElem? (i := 33) (by decide +kernel), by decide +kernel⟩
theorem q_se_X8_requireBand : Cond.selects RX8 yX8_requireBand yX8_requireBand ∈ gLW := List.mem_filter.mpr ⟨List.mem_of_getElem? (i := 34) (by decide +kernel), by decide +kernel⟩
theorem q_se_X8_requireRow : Cond.selects RX8 yX8_requireRow yX8_requireRow ∈ gLW := List.mem_filter.mpr ⟨List.mem_of_getElem? (i := 35) (by decide +kernel), by decide +kernel⟩
theorem q_se_X8_requireSheet : Cond.selects RX8 yX8_requireSheet yX8_requireSheet ∈ gLW := List.mem_filter.mpr ⟨List.mem_of_getElem? (i := 36) (by decide +kernel), by decide +kernel⟩
theorem q_se_X8_numberOfPart : Cond.selects RX8 yX8_numberOfPart yX8_numberOfPart ∈ gLW := List.mem_filter.mpr ⟨List.mem_of_getElem? (i := 37) (by decide +kernel), by decide +kernel⟩
theorem q_se_X9_fails : Cond.selects RX9 yX9_fails yX9_fails ∈ gLW := List.mem_filter.mpr ⟨List.mem_of_getElem? (i := 38) (by decide +kernel), by decide +kernel⟩
theorem q_se_X9_hold : Cond.selects RX9 yX9_hold yX9_hold ∈ gLW := List.mem_filter.mpr ⟨List.mem_of_getElem? (i := 39) (by decide +kernel), by decide +kernel⟩
theorem q_se_X9_ends : Cond.selects RX9 yX9_ends yX9_ends ∈ gLW := List.mem_filter.mpr ⟨List.mem_of_getElem? (i := 40) (by decide +kernel), by decide +kernel⟩
theorem q_se_X9_tells : Cond.selects RX9 yX9_tells yX9_tells ∈ gLW := List.mem_filter.mpr ⟨List.mem_of_getElem? (i := 41) (by decide +kernel), by decide +kernel⟩
theorem q_se_X9_valueOf : Cond.selects RX9 yX9_valueOf yX9_valueOf ∈ gLW := List.mem_filter.mpr ⟨List.mem_of_getElem? (i := 42) (by decide +kernel), by decide +kernel⟩
theorem q_se_X9_comes : Cond.selects RX9 yX9_comes yX9_comes ∈ gLW := List.mem_filter.mpr ⟨List.mem_of_getElem? (i := 43) (by decide +kernel), by decide +kernel⟩
theorem q_se_X9_isTask : Cond.selects RX9 yX9_isTask yX9_isTask ∈ gLW := List.mem_filter.mpr ⟨List.mem_of_getElem? (i := 44) (by decide +kernel), by decide +kernel⟩
theorem q_se_X9_of : Cond.selects RX9 yX9_of yX9_of ∈ gLW := List.mem_filter.mpr ⟨List.mem_of_getElem? (i := 45) (by decide +kernel), by decide +kernel⟩
theorem q_se_X9_end : Cond.selects RX9 yX9_end yX9_end ∈ gLW := List.mem_filter.mpr ⟨List.mem_of_getElem? (i := 46) (by decide +kernel), by decide +kernel⟩
theorem q_se_X9_arrowGoes : Cond.selects RX9 yX9_arrowGoes yX9_arrowGoes ∈ gLW := List.mem_filter.mpr ⟨List.mem_of_getElem? (i := 47) (by decide +kernel), by decide +kernel⟩
theorem q_se_X9_hasArrow : Cond.selects RX9 yX9_hasArrow yX9_hasArrow ∈ gLW := List.mem_filter.mpr ⟨List.mem_of_getElem? (i := 48) (by decide +kernel), by decide +kernel⟩
theorem q_se_X9_arrowComes : Cond.selects RX9 yX9_arrowComes yX9_arrowComes ∈ gLW := List.mem_filter.mpr ⟨List.mem_of_getElem? (i := 49) (by decide +kernel), by decide +kernel⟩
theorem q_se_X9_isArrow : Cond.selects RX9 yX9_isArrow yX9_isArrow ∈ gLW := List.mem_filter.mpr ⟨List.mem_of_getElem? (i := 50) (by decide +kernel), by decide +kernel⟩
theorem q_se_X9_bandsBy : Cond.selects RX9 yX9_bandsBy yX9_bandsBy ∈ gLW := List.mem_filter.mpr ⟨List.mem_of_getElem? (i := 51) (by decide +kernel), by decide +kernel⟩
theorem q_se_X9_sizeOf : Cond.selects RX9 yX9_sizeOf yX9_sizeOf ∈ gLW := List.mem_filter.mpr ⟨List.mem_of_getElem? (i := 52) (by decide +kernel), by decide +kernel⟩
theorem q_se_X9_begins : Cond.selects RX9 yX9_begins yX9_begins ∈ gLW := List.mem_filter.mpr ⟨List.mem_of_getElem? (i := 53) (by decide +kernel), by decide +kernel⟩
theorem q_se_X9_newBand : Cond.selects RX9 yX9_newBand yX9_newBand ∈ gLW := List.mem_filter.mpr ⟨List.mem_of_getElem? (i := 54) (by decide +kernel), by decide +kernel⟩
theorem q_se_X9_takesRow : Cond.selects RX9 yX9_takesRow yX9_takesRow ∈ gLW := List.mem_filter.mpr ⟨List.mem_of_getElem? (i := 55) (by decide +kernel), by decide +kernel⟩
theorem q_se_X9_next : Cond.selects RX9 yX9_next yX9_next ∈ gLW := List.mem_filter.mpr ⟨List.mem_of_getElem? (i := 56) (by decide +kernel), by decide +kernel⟩
theorem q_se_X9_taskTold : Cond.selects RX9 yX9_taskTold yX9_taskTold ∈ gLW := List.mem_filter.mpr ⟨List.mem_of_getElem? (i := 57) (by decide +kernel), by decide +kernel⟩
theorem q_se_X9_lastDay : Cond.selects RX9 yX9_lastDay yX9_lastDay ∈ gLW := List.mem_filter.mpr ⟨List.mem_of_getElem? (i := 58) (by decide +kernel), by decide +kernel⟩
theorem q_se_X9_partsOf : Cond.selects RX9 yX9_partsOf yX9_partsOf ∈ gLW := List.mem_filter.mpr ⟨List.mem_of_getElem? (i := 59) (by decide +kernel), by decide +kernel⟩
theorem q_se_X9_prints : Cond.selects RX9 yX9_prints yX9_prints ∈ gLW := List.mem_filter.mpr ⟨List.mem_of_getElem? (i := 60) (by decide +kernel), by decide +kernel⟩
theorem q_se_X9_printsBy : Cond.selects RX9 yX9_printsBy yX9_printsBy ∈ gLW := List.mem_filter.mpr ⟨List.mem_of_getElem? (i := 61) (by decide +kernel), by decide +kernel⟩
theorem q_se_X9_sheetTold : Cond.selects RX9 yX9_sheetTold yX9_sheetTold ∈ gLW := List.mem_filter.mpr ⟨List.mem_of_getElem? (i := 62) (by decide +kernel), by decide +kernel⟩
theorem q_se_X9_partsOn : Cond.selects RX9 yX9_partsOn yX9_partsOn ∈ gLW := List.mem_filter.mpr ⟨List.mem_of_getElem? (i := 63) (by decide +kernel), by decide +kernel⟩
theorem q_se_X9_arrowsOn : Cond.selects RX9 yX9_arrowsOn yX9_arrowsOn ∈ gLW := List.mem_filter.mpr ⟨List.mem_of_getElem? (i := 64) (by decide +kernel), by decide +kernel⟩
theorem q_se_X9_leaves : Cond.selects RX9 yX9_leaves yX9_leaves ∈ gLW := List.mem_filter.mpr ⟨List.mem_of_getElem? (i := 65) (by decide +kernel), by decide +kernel⟩
theorem q_se_X9_sheetBy : Cond.selects RX9 yX9_sheetBy yX9_sheetBy ∈ gLW := List.mem_filter.mpr ⟨List.mem_of_getElem? (i := 66) (by decide +kernel), by decide +kernel⟩
theorem q_se_X9_arrives : Cond.selects RX9 yX9_arrives yX9_arrives ∈ gLW := List.mem_filter.mpr ⟨List.mem_of_getElem? (i := 67) (by decide +kernel), by decide +kernel⟩
theorem q_se_X9_isExit : Cond.selects RX9 yX9_isExit yX9_isExit ∈ gLW := List.mem_filter.mpr ⟨List.mem_of_getElem? (i := 68) (by decide +kernel), by decide +kernel⟩
theorem q_se_X9_arrowTold : Cond.selects RX9 yX9_arrowTold yX9_arrowTold ∈ gLW := List.mem_filter.mpr ⟨List.mem_of_getElem? (i := 69) (by decide +kernel), by decide +kernel⟩
theorem q_se_X9_exitOf : Cond.selects RX9 yX9_exitOf yX9_exitOf ∈ gLW := List.mem_filter.mpr ⟨List.mem_of_getElem? (i := 70) (by decide +kernel), by decide +kernel⟩
theorem q_se_X9_isLate : Cond.selects RX9 yX9_isLate yX9_isLate ∈ gLW := List.mem_filter.mpr ⟨List.mem_of_getElem? (i := 71) (by decide +kernel), by decide +kernel⟩
theorem q_se_X9_longest : Cond.selects RX9 yX9_longest yX9_longest ∈ gLW := List.mem_filter.mpr ⟨List.mem_of_getElem? (i := 72) (by decide +kernel), by decide +kernel⟩
theorem q_se_X9_isItem : Cond.selects RX9 yX9_isItem yX9_isItem ∈ gLW := List.mem_filter.mpr ⟨List.mem_of_getElem? (i := 73) (by decide +kernel), by decide +kernel⟩
theorem q_se_X9_isAt : Cond.selects RX9 yX9_isAt yX9_isAt ∈ gLW := List.mem_filter.mpr ⟨List.mem_of_getElem? (i := 74) (by decide +kernel), by decide +kernel⟩
theorem q_se_X9_takes : Cond.selects RX9 yX9_takes yX9_takes ∈ gLW := List.mem_filter.mpr ⟨List.mem_of_getElem? (i := 75) (by decide +kernel), by decide +kernel⟩
theorem q_se_X9_isWithin : Cond.selects RX9 yX9_isWithin yX9_isWithin ∈ gLW := List.mem_filter.mpr ⟨List.mem_of_getElem? (i := 76) (by decide +kernel), by decide +kernel⟩
theorem q_se_X9_isNumber : Cond.selects RX9 yX9_isNumber yX9_isNumber ∈ gLW := List.mem_filter.mpr ⟨List.mem_of_getElem? (i := 77) (by decide +kernel), by decide +kernel⟩
theorem q_se_X9_mix : Cond.selects RX9 yX9_mix yX9_mix ∈ gLW := List.mem_filter.mpr ⟨List.mem_of_getElem? (i := 78) (by decide +kernel), by decide +kernel⟩
theorem q_in_L : Cond.initialized RL ∈ gLW := List.mem_filter.mpr ⟨List.mem_of_getElem? (i := 79) (by decide +kernel), by decide +kernel⟩
theorem q_in_X8 : Cond.initialized RX8 ∈ gLW := List.mem_filter.mpr ⟨List.mem_of_getElem? (i := 80) (by decide +kernel), by decide +kernel⟩
theorem q_in_X5 : Cond.initialized RX5 ∈ gLW := List.mem_filter.mpr ⟨List.mem_of_getElem? (i := 81) (by decide +kernel), by decide +kernel⟩
theorem q_in_X4 : Cond.initialized RX4 ∈ gLW := List.mem_filter.mpr ⟨List.mem_of_getElem? (i := 82) (by decide +kernel), by decide +kernel⟩
theorem q_in_X3 : Cond.initialized RX3 ∈ gLW := List.mem_filter.mpr ⟨List.mem_of_getElem? (i := 83) (by decide +kernel), by decide +kernel⟩
theorem q_in_X7 : Cond.initialized RX7 ∈ gLW := List.mem_filter.mpr ⟨List.mem_of_getElem? (i := 84) (by decide +kernel), by decide +kernel⟩
theorem q_in_X1 : Cond.initialized RX1 ∈ gLW := List.mem_filter.mpr ⟨List.mem_of_getElem? (i := 85) (by decide +kernel), by decide +kernel⟩
theorem q_in_X0 : Cond.initialized RX0 ∈ gLW := List.mem_filter.mpr ⟨List.mem_of_getElem? (i := 86) (by decide +kernel), by decide +kernel⟩
theorem q_in_X6 : Cond.initialized RX6 ∈ gLW := List.mem_filter.mpr ⟨List.mem_of_getElem? (i := 87) (by decide +kernel), by decide +kernel⟩
theorem q_in_X2 : Cond.initialized RX2 ∈ gLW := List.mem_filter.mpr ⟨List.mem_of_getElem? (i := 88) (by decide +kernel), by decide +kernel⟩
theorem q_in_X9 : Cond.initialized RX9 ∈ gLW := List.mem_filter.mpr ⟨List.mem_of_getElem? (i := 89) (by decide +kernel), by decide +kernel⟩
theorem q_in_java_lang_Throwable : Cond.initialized "java/lang/Throwable" ∈ gLW := List.mem_filter.mpr ⟨List.mem_of_getElem? (i := 90) (by decide +kernel), by decide +kernel⟩
theorem q_in_java_lang_Exception : Cond.initialized "java/lang/Exception" ∈ gLW := List.mem_filter.mpr ⟨List.mem_of_getElem? (i := 91) (by decide +kernel), by decide +kernel⟩
theorem q_in_java_lang_RuntimeException : Cond.initialized "java/lang/RuntimeException" ∈ gLW := List.mem_filter.mpr ⟨List.mem_of_getElem? (i := 92) (by decide +kernel), by decide +kernel⟩
theorem q_in_java_lang_IllegalArgumentException : Cond.initialized "java/lang/IllegalArgumentException" ∈ gLW := List.mem_filter.mpr ⟨List.mem_of_getElem? (i := 93) (by decide +kernel), by decide +kernel⟩
theorem q_in_java_lang_IllegalStateException : Cond.initialized "java/lang/IllegalStateException" ∈ gLW := List.mem_filter.mpr ⟨List.mem_of_getElem? (i := 94) (by decide +kernel), by decide +kernel⟩
theorem q_in_java_lang_IndexOutOfBoundsException : Cond.initialized "java/lang/IndexOutOfBoundsException" ∈ gLW := List.mem_filter.mpr ⟨List.mem_of_getElem? (i := 95) (by decide +kernel), by decide +kernel⟩
theorem q_in_J9 : Cond.initialized RJ9 ∈ gLW := List.mem_filter.mpr ⟨List.mem_of_getElem? (i := 96) (by decide +kernel), by decide +kernel⟩
theorem q_cl_L_8 : Cond.classLink RL 8 RX8 ∈ gLW := List.mem_filter.mpr ⟨List.mem_of_getElem? (i := 97) (by decide +kernel), by decide +kernel⟩
theorem q_ia_X8 : Cond.instantiable RX8 10 ∈ gLW := List.mem_filter.mpr ⟨List.mem_of_getElem? (i := 98) (by decide +kernel), by decide +kernel⟩
theorem q_ml_L_76 : Cond.methodLink RL 76 yX8_init ∈ gLW := List.mem_filter.mpr ⟨List.mem_of_getElem? (i := 99) (by decide +kernel), by decide +kernel⟩
theorem q_im_X8_init : Cond.instanceMethod yX8_init ∈ gLW := List.mem_filter.mpr ⟨List.mem_of_getElem? (i := 100) (by decide +kernel), by decide +kernel⟩
theorem q_co_X8_init : Cond.code yX8_init cX8_init 1 none ∈ gLW := List.mem_filter.mpr ⟨List.mem_of_getElem? (i := 101) (by decide +kernel), by decide +kernel⟩
theorem q_ml_X8_3 : Cond.methodLink RX8 3 objectInit ∈ gLW := List.mem_filter.mpr ⟨List.mem_of_getElem? (i := 102) (by decide +kernel), by decide +kernel⟩
theorem q_im_obj : Cond.instanceMethod objectInit ∈ gLW := List.mem_filter.mpr ⟨List.mem_of_getElem? (i := 103) (by decide +kernel), by decide +kernel⟩
theorem q_co_obj : Cond.code objectInit ⟨#[0xb1]⟩ 1 none ∈ gLW := List.mem_filter.mpr ⟨List.mem_of_getElem? (i := 104) (by decide +kernel), by decide +kernel⟩
theorem q_cl_X8_9 : Cond.classLink RX8 9 RX5 ∈ gLW := List.mem_filter.mpr ⟨List.mem_of_getElem? (i := 105) (by decide +kernel), by decide +kernel⟩
theorem q_ia_X5 : Cond.instantiable RX5 8 ∈ gLW := List.mem_filter.mpr ⟨List.mem_of_getElem? (i := 106) (by decide +kernel), by decide +kernel⟩
theorem q_ml_X8_11 : Cond.methodLink RX8 11 yX5_init ∈ gLW := List.mem_filter.mpr ⟨List.mem_of_getElem? (i := 107) (by decide +kernel), by decide +kernel⟩
theorem q_im_X5_init : Cond.instanceMethod yX5_init ∈ gLW := List.mem_filter.mpr ⟨List.mem_of_getElem? (i := 108) (by decide +kernel), by decide +kernel⟩
theorem q_co_X5_init : Cond.code yX5_init cX5_init 2 none ∈ gLW := List.mem_filter.mpr ⟨List.mem_of_getElem? (i := 109) (by decide +kernel), by decide +kernel⟩
theorem q_ml_X5_3 : Cond.methodLink RX5 3 objectInit ∈ gLW := List.mem_filter.mpr ⟨List.mem_of_getElem? (i := 110) (by decide +kernel), by decide +kernel⟩
theorem q_cl_X5_9 : Cond.classLink RX5 9 RX4 ∈ gLW := List.mem_filter.mpr ⟨List.mem_of_getElem? (i := 111) (by decide +kernel), by decide +kernel⟩
theorem q_ia_X4 : Cond.instantiable RX4 1 ∈ gLW := List.mem_filter.mpr ⟨List.mem_of_getElem? (i := 112) (by decide +kernel), by decide +kernel⟩
theorem q_ml_X5_11 : Cond.methodLink RX5 11 yX4_init ∈ gLW := List.mem_filter.mpr ⟨List.mem_of_getElem? (i := 113) (by decide +kernel), by decide +kernel⟩
theorem q_im_X4_init : Cond.instanceMethod yX4_init ∈ gLW := List.mem_filter.mpr ⟨List.mem_of_getElem? (i := 114) (by decide +kernel), by decide +kernel⟩
theorem q_co_X4_init : Cond.code yX4_init cX4_init 2 none ∈ gLW := List.mem_filter.mpr ⟨List.mem_of_getElem? (i := 115) (by decide +kernel), by decide +kernel⟩
theorem q_ml_X4_3 : Cond.methodLink RX4 3 objectInit ∈ gLW := List.mem_filter.mpr ⟨List.mem_of_getElem? (i := 116) (by decide +kernel), by decide +kernel⟩
theorem q_fl_X4_9 : Cond.fieldLink RX4 9 "TaskSheets$Numbers" "places" "[I" ∈ gLW := List.mem_filter.mpr ⟨List.mem_of_getElem? (i := 117) (by decide +kernel), by decide +kernel⟩
theorem q_ac_int : Cond.arrayClass Jvm.ClassFile.FieldType.int ∈ gLW := List.mem_filter.mpr ⟨List.mem_of_getElem? (i := 121) (by decide +kernel), by decide +kernel⟩
theorem q_ml_X5_39 : Cond.methodLink RX5 39 yX4_put ∈ gLW := List.mem_filter.mpr ⟨List.mem_of_getElem? (i := 124) (by decide +kernel), by decide +kernel⟩
theorem q_im_X4_put : Cond.instanceMethod yX4_put ∈ gLW := List.mem_filter.mpr ⟨List.mem_of_getElem? (i := 125) (by decide +kernel), by decide +kernel⟩
theorem q_se_X4_put : Cond.selects RX4 yX4_put yX4_put ∈ gLW := List.mem_filter.mpr ⟨List.mem_of_getElem? (i := 126) (by decide +kernel), by decide +kernel⟩
theorem q_co_X4_put : Cond.code yX4_put cX4_put 3 none ∈ gLW := List.mem_filter.mpr ⟨List.mem_of_getElem? (i := 127) (by decide +kernel), by decide +kernel⟩
theorem q_fl_X5_14 : Cond.fieldLink RX5 14 "TaskSheets$Plan" "settings" "LTaskSheets$Numbers;" ∈ gLW := List.mem_filter.mpr ⟨List.mem_of_getElem? (i := 128) (by decide +kernel), by decide +kernel⟩
theorem q_fl_X5_20 : Cond.fieldLink RX5 20 "TaskSheets$Plan" "groups" "LTaskSheets$Numbers;" ∈ gLW := List.mem_filter.mpr ⟨List.mem_of_getElem? (i := 129) (by decide +kernel), by decide +kernel⟩
theorem q_fl_X5_23 : Cond.fieldLink RX5 23 "TaskSheets$Plan" "firsts" "LTaskSheets$Numbers;" ∈ gLW := List.mem_filter.mpr ⟨List.mem_of_getElem? (i := 130) (by decide +kernel), by decide +kernel⟩
theorem q_fl_X5_26 : Cond.fieldLink RX5 26 "TaskSheets$Plan" "lengths" "LTaskSheets$Numbers;" ∈ gLW := List.mem_filter.mpr ⟨List.mem_of_getElem? (i := 131) (by decide +kernel), by decide +kernel⟩
theorem q_fl_X5_29 : Cond.fieldLink RX5 29 "TaskSheets$Plan" "froms" "LTaskSheets$Numbers;" ∈ gLW := List.mem_filter.mpr ⟨List.mem_of_getElem? (i := 132) (by decide +kernel), by decide +kernel⟩
theorem q_fl_X5_32 : Cond.fieldLink RX5 32 "TaskSheets$Plan" "tos" "LTaskSheets$Numbers;" ∈ gLW := List.mem_filter.mpr ⟨List.mem_of_getElem? (i := 133) (by decide +kernel), by decide +kernel⟩
theorem q_fl_X5_47 : Cond.fieldLink RX5 47 "TaskSheets$Plan" "tasks" "I" ∈ gLW := List.mem_filter.mpr ⟨List.mem_of_getElem? (i := 134) (by decide +kernel), by decide +kernel⟩
theorem q_fl_X5_51 : Cond.fieldLink RX5 51 "TaskSheets$Plan" "arrows" "I" ∈ gLW := List.mem_filter.mpr ⟨List.mem_of_getElem? (i := 135) (by decide +kernel), by decide +kernel⟩
theorem q_cl_X8_19 : Cond.classLink RX8 19 RX3 ∈ gLW := List.mem_filter.mpr ⟨List.mem_of_getElem? (i := 153) (by decide +kernel), by decide +kernel⟩
theorem q_ia_X3 : Cond.instantiable RX3 3 ∈ gLW := List.mem_filter.mpr ⟨List.mem_of_getElem? (i := 154) (by decide +kernel), by decide +kernel⟩
theorem q_ml_X8_21 : Cond.methodLink RX8 21 yX3_init ∈ gLW := List.mem_filter.mpr ⟨List.mem_of_getElem? (i := 155) (by decide +kernel), by decide +kernel⟩
theorem q_im_X3_init : Cond.instanceMethod yX3_init ∈ gLW := List.mem_filter.mpr ⟨List.mem_of_getElem? (i := 156) (by decide +kernel), by decide +kernel⟩
theorem q_co_X3_init : Cond.code yX3_init cX3_init 2 none ∈ gLW := List.mem_filter.mpr ⟨List.mem_of_getElem? (i := 157) (by decide +kernel), by decide +kernel⟩
theorem q_ml_X3_3 : Cond.methodLink RX3 3 objectInit ∈ gLW := List.mem_filter.mpr ⟨List.mem_of_getElem? (i := 158) (by decide +kernel), by decide +kernel⟩
theorem q_cl_X3_9 : Cond.classLink RX3 9 RX5 ∈ gLW := List.mem_filter.mpr ⟨List.mem_of_getElem? (i := 159) (by decide +kernel), by decide +kernel⟩
theorem q_ml_X3_17 : Cond.methodLink RX3 17 yX5_init ∈ gLW := List.mem_filter.mpr ⟨List.mem_of_getElem? (i := 161) (by decide +kernel), by decide +kernel⟩
theorem q_fl_X3_11 : Cond.fieldLink RX3 11 "TaskSheets$History" "saved" "[LTaskSheets$Plan;" ∈ gLW := List.mem_filter.mpr ⟨List.mem_of_getElem? (i := 162) (by decide +kernel), by decide +kernel⟩
theorem q_fl_X3_22 : Cond.fieldLink RX3 22 "TaskSheets$History" "next" "I" ∈ gLW := List.mem_filter.mpr ⟨List.mem_of_getElem? (i := 163) (by decide +kernel), by decide +kernel⟩
theorem q_fl_X3_18 : Cond.fieldLink RX3 18 "TaskSheets$History" "count" "I" ∈ gLW := List.mem_filter.mpr ⟨List.mem_of_getElem? (i := 164) (by decide +kernel), by decide +kernel⟩
theorem q_cl_X8_26 : Cond.classLink RX8 26 RX7 ∈ gLW := List.mem_filter.mpr ⟨List.mem_of_getElem? (i := 172) (by decide +kernel), by decide +kernel⟩
theorem q_ia_X7 : Cond.instantiable RX7 5 ∈ gLW := List.mem_filter.mpr ⟨List.mem_of_getElem? (i := 173) (by decide +kernel), by decide +kernel⟩
theorem q_im_X7_init : Cond.instanceMethod yX7_init ∈ gLW := List.mem_filter.mpr ⟨List.mem_of_getElem? (i := 175) (by decide +kernel), by decide +kernel⟩
theorem q_co_X7_init : Cond.code yX7_init cX7_init 1 none ∈ gLW := List.mem_filter.mpr ⟨List.mem_of_getElem? (i := 176) (by decide +kernel), by decide +kernel⟩
theorem q_ml_X7_3 : Cond.methodLink RX7 3 objectInit ∈ gLW := List.mem_filter.mpr ⟨List.mem_of_getElem? (i := 177) (by decide +kernel), by decide +kernel⟩
theorem q_cl_X7_9 : Cond.classLink RX7 9 RX4 ∈ gLW := List.mem_filter.mpr ⟨List.mem_of_getElem? (i := 178) (by decide +kernel), by decide +kernel⟩
theorem q_ml_X7_11 : Cond.methodLink RX7 11 yX4_init ∈ gLW := List.mem_filter.mpr ⟨List.mem_of_getElem? (i := 179) (by decide +kernel), by decide +kernel⟩
theorem q_fl_X7_14 : Cond.fieldLink RX7 14 "TaskSheets$TaskText" "bytes" "LTaskSheets$Numbers;" ∈ gLW := List.mem_filter.mpr ⟨List.mem_of_getElem? (i := 180) (by decide +kernel), by decide +kernel⟩
theorem q_fl_X7_20 : Cond.fieldLink RX7 20 "TaskSheets$TaskText" "length" "I" ∈ gLW := List.mem_filter.mpr ⟨List.mem_of_getElem? (i := 181) (by decide +kernel), by decide +kernel⟩
theorem q_fl_X7_33 : Cond.fieldLink RX7 33 "TaskSheets$TaskText" "position" "I" ∈ gLW := List.mem_filter.mpr ⟨List.mem_of_getElem? (i := 182) (by decide +kernel), by decide +kernel⟩
theorem q_fl_X7_36 : Cond.fieldLink RX7 36 "TaskSheets$TaskText" "error" "I" ∈ gLW := List.mem_filter.mpr ⟨List.mem_of_getElem? (i := 183) (by decide +kernel), by decide +kernel⟩
theorem q_fl_X7_61 : Cond.fieldLink RX7 61 "TaskSheets$TaskText" "number" "I" ∈ gLW := List.mem_filter.mpr ⟨List.mem_of_getElem? (i := 184) (by decide +kernel), by decide +kernel⟩
theorem q_cl_X8_33 : Cond.classLink RX8 33 RX1 ∈ gLW := List.mem_filter.mpr ⟨List.mem_of_getElem? (i := 196) (by decide +kernel), by decide +kernel⟩
theorem q_ia_X1 : Cond.instantiable RX1 1 ∈ gLW := List.mem_filter.mpr ⟨List.mem_of_getElem? (i := 197) (by decide +kernel), by decide +kernel⟩
theorem q_im_X1_init : Cond.instanceMethod yX1_init ∈ gLW := List.mem_filter.mpr ⟨List.mem_of_getElem? (i := 199) (by decide +kernel), by decide +kernel⟩
theorem q_co_X1_init : Cond.code yX1_init cX1_init 1 none ∈ gLW := List.mem_filter.mpr ⟨List.mem_of_getElem? (i := 200) (by decide +kernel), by decide +kernel⟩
theorem q_ml_X1_3 : Cond.methodLink RX1 3 objectInit ∈ gLW := List.mem_filter.mpr ⟨List.mem_of_getElem? (i := 201) (by decide +kernel), by decide +kernel⟩
theorem q_cl_X1_9 : Cond.classLink RX1 9 RX4 ∈ gLW := List.mem_filter.mpr ⟨List.mem_of_getElem? (i := 202) (by decide +kernel), by decide +kernel⟩
theorem q_ml_X1_11 : Cond.methodLink RX1 11 yX4_init ∈ gLW := List.mem_filter.mpr ⟨List.mem_of_getElem? (i := 203) (by decide +kernel), by decide +kernel⟩
theorem q_fl_X1_14 : Cond.fieldLink RX1 14 "TaskSheets$Chains" "longestTo" "LTaskSheets$Numbers;" ∈ gLW := List.mem_filter.mpr ⟨List.mem_of_getElem? (i := 204) (by decide +kernel), by decide +kernel⟩
theorem q_cl_X8_40 : Cond.classLink RX8 40 RX0 ∈ gLW := List.mem_filter.mpr ⟨List.mem_of_getElem? (i := 208) (by decide +kernel), by decide +kernel⟩
theorem q_ia_X0 : Cond.instantiable RX0 8 ∈ gLW := List.mem_filter.mpr ⟨List.mem_of_getElem? (i := 209) (by decide +kernel), by decide +kernel⟩
theorem q_im_X0_init : Cond.instanceMethod yX0_init ∈ gLW := List.mem_filter.mpr ⟨List.mem_of_getElem? (i := 211) (by decide +kernel), by decide +kernel⟩
theorem q_co_X0_init : Cond.code yX0_init cX0_init 1 none ∈ gLW := List.mem_filter.mpr ⟨List.mem_of_getElem? (i := 212) (by decide +kernel), by decide +kernel⟩
theorem q_ml_X0_3 : Cond.methodLink RX0 3 objectInit ∈ gLW := List.mem_filter.mpr ⟨List.mem_of_getElem? (i := 213) (by decide +kernel), by decide +kernel⟩
theorem q_cl_X0_9 : Cond.classLink RX0 9 RX4 ∈ gLW := List.mem_filter.mpr ⟨List.mem_of_getElem? (i := 214) (by decide +kernel), by decide +kernel⟩
theorem q_ml_X0_11 : Cond.methodLink RX0 11 yX4_init ∈ gLW := List.mem_filter.mpr ⟨List.mem_of_getElem? (i := 215) (by decide +kernel), by decide +kernel⟩
theorem q_fl_X0_14 : Cond.fieldLink RX0 14 "TaskSheets$Bands" "contents" "LTaskSheets$Numbers;" ∈ gLW := List.mem_filter.mpr ⟨List.mem_of_getElem? (i := 216) (by decide +kernel), by decide +kernel⟩
theorem q_fl_X0_20 : Cond.fieldLink RX0 20 "TaskSheets$Bands" "bandOfTask" "LTaskSheets$Numbers;" ∈ gLW := List.mem_filter.mpr ⟨List.mem_of_getElem? (i := 217) (by decide +kernel), by decide +kernel⟩
theorem q_fl_X0_23 : Cond.fieldLink RX0 23 "TaskSheets$Bands" "rowOfTask" "LTaskSheets$Numbers;" ∈ gLW := List.mem_filter.mpr ⟨List.mem_of_getElem? (i := 218) (by decide +kernel), by decide +kernel⟩
theorem q_fl_X0_26 : Cond.fieldLink RX0 26 "TaskSheets$Bands" "members" "LTaskSheets$Numbers;" ∈ gLW := List.mem_filter.mpr ⟨List.mem_of_getElem? (i := 219) (by decide +kernel), by decide +kernel⟩
theorem q_fl_X0_47 : Cond.fieldLink RX0 47 "TaskSheets$Bands" "memberCount" "I" ∈ gLW := List.mem_filter.mpr ⟨List.mem_of_getElem? (i := 220) (by decide +kernel), by decide +kernel⟩
theorem q_fl_X0_37 : Cond.fieldLink RX0 37 "TaskSheets$Bands" "rows" "I" ∈ gLW := List.mem_filter.mpr ⟨List.mem_of_getElem? (i := 221) (by decide +kernel), by decide +kernel⟩
theorem q_fl_X0_29 : Cond.fieldLink RX0 29 "TaskSheets$Bands" "count" "I" ∈ gLW := List.mem_filter.mpr ⟨List.mem_of_getElem? (i := 222) (by decide +kernel), by decide +kernel⟩
theorem q_fl_X0_40 : Cond.fieldLink RX0 40 "TaskSheets$Bands" "free" "I" ∈ gLW := List.mem_filter.mpr ⟨List.mem_of_getElem? (i := 223) (by decide +kernel), by decide +kernel⟩
theorem q_cl_X8_47 : Cond.classLink RX8 47 RX6 ∈ gLW := List.mem_filter.mpr ⟨List.mem_of_getElem? (i := 241) (by decide +kernel), by decide +kernel⟩
theorem q_ia_X6 : Cond.instantiable RX6 5 ∈ gLW := List.mem_filter.mpr ⟨List.mem_of_getElem? (i := 242) (by decide +kernel), by decide +kernel⟩
theorem q_im_X6_init : Cond.instanceMethod yX6_init ∈ gLW := List.mem_filter.mpr ⟨List.mem_of_getElem? (i := 244) (by decide +kernel), by decide +kernel⟩
theorem q_co_X6_init : Cond.code yX6_init cX6_init 1 none ∈ gLW := List.mem_filter.mpr ⟨List.mem_of_getElem? (i := 245) (by decide +kernel), by decide +kernel⟩
theorem q_ml_X6_3 : Cond.methodLink RX6 3 objectInit ∈ gLW := List.mem_filter.mpr ⟨List.mem_of_getElem? (i := 246) (by decide +kernel), by decide +kernel⟩
theorem q_cl_X6_9 : Cond.classLink RX6 9 RX4 ∈ gLW := List.mem_filter.mpr ⟨List.mem_of_getElem? (i := 247) (by decide +kernel), by decide +kernel⟩
theorem q_ml_X6_11 : Cond.methodLink RX6 11 yX4_init ∈ gLW := List.mem_filter.mpr ⟨List.mem_of_getElem? (i := 248) (by decide +kernel), by decide +kernel⟩
theorem q_fl_X6_14 : Cond.fieldLink RX6 14 "TaskSheets$Sheets" "partsOnSpot" "LTaskSheets$Numbers;" ∈ gLW := List.mem_filter.mpr ⟨List.mem_of_getElem? (i := 249) (by decide +kernel), by decide +kernel⟩
theorem q_fl_X6_20 : Cond.fieldLink RX6 20 "TaskSheets$Sheets" "sheetOnSpot" "LTaskSheets$Numbers;" ∈ gLW := List.mem_filter.mpr ⟨List.mem_of_getElem? (i := 250) (by decide +kernel), by decide +kernel⟩
theorem q_fl_X6_23 : Cond.fieldLink RX6 23 "TaskSheets$Sheets" "bandOfSheet" "LTaskSheets$Numbers;" ∈ gLW := List.mem_filter.mpr ⟨List.mem_of_getElem? (i := 251) (by decide +kernel), by decide +kernel⟩
theorem q_fl_X6_26 : Cond.fieldLink RX6 26 "TaskSheets$Sheets" "stripOfSheet" "LTaskSheets$Numbers;" ∈ gLW := List.mem_filter.mpr ⟨List.mem_of_getElem? (i := 252) (by decide +kernel), by decide +kernel⟩
theorem q_fl_X6_29 : Cond.fieldLink RX6 29 "TaskSheets$Sheets" "count" "I" ∈ gLW := List.mem_filter.mpr ⟨List.mem_of_getElem? (i := 253) (by decide +kernel), by decide +kernel⟩
theorem q_cl_X8_54 : Cond.classLink RX8 54 RX2 ∈ gLW := List.mem_filter.mpr ⟨List.mem_of_getElem? (i := 265) (by decide +kernel), by decide +kernel⟩
theorem q_ia_X2 : Cond.instantiable RX2 7 ∈ gLW := List.mem_filter.mpr ⟨List.mem_of_getElem? (i := 266) (by decide +kernel), by decide +kernel⟩
theorem q_im_X2_init : Cond.instanceMethod yX2_init ∈ gLW := List.mem_filter.mpr ⟨List.mem_of_getElem? (i := 268) (by decide +kernel), by decide +kernel⟩
theorem q_co_X2_init : Cond.code yX2_init cX2_init 1 none ∈ gLW := List.mem_filter.mpr ⟨List.mem_of_getElem? (i := 269) (by decide +kernel), by decide +kernel⟩
theorem q_ml_X2_3 : Cond.methodLink RX2 3 objectInit ∈ gLW := List.mem_filter.mpr ⟨List.mem_of_getElem? (i := 270) (by decide +kernel), by decide +kernel⟩
theorem q_cl_X2_9 : Cond.classLink RX2 9 RX4 ∈ gLW := List.mem_filter.mpr ⟨List.mem_of_getElem? (i := 271) (by decide +kernel), by decide +kernel⟩
theorem q_ml_X2_11 : Cond.methodLink RX2 11 yX4_init ∈ gLW := List.mem_filter.mpr ⟨List.mem_of_getElem? (i := 272) (by decide +kernel), by decide +kernel⟩
theorem q_fl_X2_14 : Cond.fieldLink RX2 14 "TaskSheets$Exits" "leaveSheets" "LTaskSheets$Numbers;" ∈ gLW := List.mem_filter.mpr ⟨List.mem_of_getElem? (i := 273) (by decide +kernel), by decide +kernel⟩
theorem q_fl_X2_20 : Cond.fieldLink RX2 20 "TaskSheets$Exits" "arriveSheets" "LTaskSheets$Numbers;" ∈ gLW := List.mem_filter.mpr ⟨List.mem_of_getElem? (i := 274) (by decide +kernel), by decide +kernel⟩
theorem q_fl_X2_23 : Cond.fieldLink RX2 23 "TaskSheets$Exits" "exitOfArrow" "LTaskSheets$Numbers;" ∈ gLW := List.mem_filter.mpr ⟨List.mem_of_getElem? (i := 275) (by decide +kernel), by decide +kernel⟩
theorem q_fl_X2_26 : Cond.fieldLink RX2 26 "TaskSheets$Exits" "arrowOfExit" "LTaskSheets$Numbers;" ∈ gLW := List.mem_filter.mpr ⟨List.mem_of_getElem? (i := 276) (by decide +kernel), by decide +kernel⟩
theorem q_fl_X2_29 : Cond.fieldLink RX2 29 "TaskSheets$Exits" "exitsOfSheet" "LTaskSheets$Numbers;" ∈ gLW := List.mem_filter.mpr ⟨List.mem_of_getElem? (i := 277) (by decide +kernel), by decide +kernel⟩
theorem q_fl_X2_32 : Cond.fieldLink RX2 32 "TaskSheets$Exits" "drawnOfSheet" "LTaskSheets$Numbers;" ∈ gLW := List.mem_filter.mpr ⟨List.mem_of_getElem? (i := 278) (by decide +kernel), by decide +kernel⟩
theorem q_fl_X2_35 : Cond.fieldLink RX2 35 "TaskSheets$Exits" "count" "I" ∈ gLW := List.mem_filter.mpr ⟨List.mem_of_getElem? (i := 279) (by decide +kernel), by decide +kernel⟩
theorem q_fl_X8_12 : Cond.fieldLink RX8 12 "TaskSheets" "plan" "LTaskSheets$Plan;" ∈ gLW := List.mem_filter.mpr ⟨List.mem_of_getElem? (i := 295) (by decide +kernel), by decide +kernel⟩
theorem q_fl_X8_16 : Cond.fieldLink RX8 16 "TaskSheets" "told" "LTaskSheets$Plan;" ∈ gLW := List.mem_filter.mpr ⟨List.mem_of_getElem? (i := 296) (by decide +kernel), by decide +kernel⟩
theorem q_fl_X8_22 : Cond.fieldLink RX8 22 "TaskSheets" "history" "LTaskSheets$History;" ∈ gLW := List.mem_filter.mpr ⟨List.mem_of_getElem? (i := 297) (by decide +kernel), by decide +kernel⟩
theorem q_fl_X8_29 : Cond.fieldLink RX8 29 "TaskSheets" "text" "LTaskSheets$TaskText;" ∈ gLW := List.mem_filter.mpr ⟨List.mem_of_getElem? (i := 298) (by decide +kernel), by decide +kernel⟩
theorem q_fl_X8_36 : Cond.fieldLink RX8 36 "TaskSheets" "chains" "LTaskSheets$Chains;" ∈ gLW := List.mem_filter.mpr ⟨List.mem_of_getElem? (i := 299) (by decide +kernel), by decide +kernel⟩
theorem q_fl_X8_43 : Cond.fieldLink RX8 43 "TaskSheets" "bands" "LTaskSheets$Bands;" ∈ gLW := List.mem_filter.mpr ⟨List.mem_of_getElem? (i := 300) (by decide +kernel), by decide +kernel⟩
theorem q_fl_X8_50 : Cond.fieldLink RX8 50 "TaskSheets" "sheets" "LTaskSheets$Sheets;" ∈ gLW := List.mem_filter.mpr ⟨List.mem_of_getElem? (i := 301) (by decide +kernel), by decide +kernel⟩
theorem q_fl_X8_57 : Cond.fieldLink RX8 57 "TaskSheets" "exits" "LTaskSheets$Exits;" ∈ gLW := List.mem_filter.mpr ⟨List.mem_of_getElem? (i := 302) (by decide +kernel), by decide +kernel⟩
theorem q_fl_X8_61 : Cond.fieldLink RX8 61 "TaskSheets" "trialBands" "LTaskSheets$Bands;" ∈ gLW := List.mem_filter.mpr ⟨List.mem_of_getElem? (i := 303) (by decide +kernel), by decide +kernel⟩
theorem q_fl_X8_64 : Cond.fieldLink RX8 64 "TaskSheets" "trialSheets" "LTaskSheets$Sheets;" ∈ gLW := List.mem_filter.mpr ⟨List.mem_of_getElem? (i := 304) (by decide +kernel), by decide +kernel⟩
theorem q_ml_L_112 : Cond.methodLink RL 112 yX8_bands ∈ gLW := List.mem_filter.mpr ⟨List.mem_of_getElem? (i := 326) (by decide +kernel), by decide +kernel⟩
theorem q_im_X8_bands : Cond.instanceMethod yX8_bands ∈ gLW := List.mem_filter.mpr ⟨List.mem_of_getElem? (i := 327) (by decide +kernel), by decide +kernel⟩
theorem q_se_X8_bands : Cond.selects RX8 yX8_bands yX8_bands ∈ gLW := List.mem_filter.mpr ⟨List.mem_of_getElem? (i := 328) (by decide +kernel), by decide +kernel⟩
theorem q_co_X8_bands : Cond.code yX8_bands cX8_bands 1 (some (Jvm.ClassFile.FieldType.int)) ∈ gLW := List.mem_filter.mpr ⟨List.mem_of_getElem? (i := 329) (by decide +kernel), by decide +kernel⟩
theorem q_ml_X8_157 : Cond.methodLink RX8 157 yX0_count ∈ gLW := List.mem_filter.mpr ⟨List.mem_of_getElem? (i := 330) (by decide +kernel), by decide +kernel⟩
theorem q_im_X0_count : Cond.instanceMethod yX0_count ∈ gLW := List.mem_filter.mpr ⟨List.mem_of_getElem? (i := 331) (by decide +kernel), by decide +kernel⟩
theorem q_se_X0_count : Cond.selects RX0 yX0_count yX0_count ∈ gLW := List.mem_filter.mpr ⟨List.mem_of_getElem? (i := 332) (by decide +kernel), by decide +kernel⟩
theorem q_co_X0_count : Cond.code yX0_count cX0_count 1 (some (Jvm.ClassFile.FieldType.int)) ∈ gLW := List.mem_filter.mpr ⟨List.mem_of_getElem? (i := 333) (by decide +kernel), by decide +kernel⟩
theorem q_ml_L_119 : Cond.methodLink RL 119 yX8_sheets ∈ gLW := List.mem_filter.mpr ⟨List.mem_of_getElem? (i := 334) (by decide +kernel), by decide +kernel⟩
theorem q_im_X8_sheets : Cond.instanceMethod yX8_sheets ∈ gLW := List.mem_filter.mpr ⟨List.mem_of_getElem? (i := 335) (by decide +kernel), by decide +kernel⟩
theorem q_se_X8_sheets : Cond.selects RX8 yX8_sheets yX8_sheets ∈ gLW := List.mem_filter.mpr ⟨List.mem_of_getElem? (i := 336) (by decide +kernel), by decide +kernel⟩
theorem q_co_X8_sheets : Cond.code yX8_sheets cX8_sheets 1 (some (Jvm.ClassFile.FieldType.int)) ∈ gLW := List.mem_filter.mpr ⟨List.mem_of_getElem? (i := 337) (by decide +kernel), by decide +kernel⟩
theorem q_ml_X8_169 : Cond.methodLink RX8 169 yX6_count ∈ gLW := List.mem_filter.mpr ⟨List.mem_of_getElem? (i := 338) (by decide +kernel), by decide +kernel⟩
theorem q_im_X6_count : Cond.instanceMethod yX6_count ∈ gLW := List.mem_filter.mpr ⟨List.mem_of_getElem? (i := 339) (by decide +kernel), by decide +kernel⟩
theorem q_se_X6_count : Cond.selects RX6 yX6_count yX6_count ∈ gLW := List.mem_filter.mpr ⟨List.mem_of_getElem? (i := 340) (by decide +kernel), by decide +kernel⟩
theorem q_co_X6_count : Cond.code yX6_count cX6_count 1 (some (Jvm.ClassFile.FieldType.int)) ∈ gLW := List.mem_filter.mpr ⟨List.mem_of_getElem? (i := 341) (by decide +kernel), by decide +kernel⟩
theorem q_ml_L_141 : Cond.methodLink RL 141 yX8_covered ∈ gLW := List.mem_filter.mpr ⟨List.mem_of_getElem? (i := 342) (by decide +kernel), by decide +kernel⟩
theorem q_im_X8_covered : Cond.instanceMethod yX8_covered ∈ gLW := List.mem_filter.mpr ⟨List.mem_of_getElem? (i := 343) (by decide +kernel), by decide +kernel⟩
theorem q_se_X8_covered : Cond.selects RX8 yX8_covered yX8_covered ∈ gLW := List.mem_filter.mpr ⟨List.mem_of_getElem? (i := 344) (by decide +kernel), by decide +kernel⟩
theorem q_co_X8_covered : Cond.code yX8_covered cX8_covered 2 (some (Jvm.ClassFile.FieldType.double)) ∈ gLW := List.mem_filter.mpr ⟨List.mem_of_getElem? (i := 345) (by decide +kernel), by decide +kernel⟩
theorem q_ml_X8_82 : Cond.methodLink RX8 82 yX5_setting ∈ gLW := List.mem_filter.mpr ⟨List.mem_of_getElem? (i := 346) (by decide +kernel), by decide +kernel⟩
theorem q_im_X5_setting : Cond.instanceMethod yX5_setting ∈ gLW := List.mem_filter.mpr ⟨List.mem_of_getElem? (i := 347) (by decide +kernel), by decide +kernel⟩
theorem q_se_X5_setting : Cond.selects RX5 yX5_setting yX5_setting ∈ gLW := List.mem_filter.mpr ⟨List.mem_of_getElem? (i := 348) (by decide +kernel), by decide +kernel⟩
theorem q_co_X5_setting : Cond.code yX5_setting cX5_setting 2 (some (Jvm.ClassFile.FieldType.int)) ∈ gLW := List.mem_filter.mpr ⟨List.mem_of_getElem? (i := 349) (by decide +kernel), by decide +kernel⟩
theorem q_ml_X5_43 : Cond.methodLink RX5 43 yX4_at ∈ gLW := List.mem_filter.mpr ⟨List.mem_of_getElem? (i := 350) (by decide +kernel), by decide +kernel⟩
theorem q_im_X4_at : Cond.instanceMethod yX4_at ∈ gLW := List.mem_filter.mpr ⟨List.mem_of_getElem? (i := 351) (by decide +kernel), by decide +kernel⟩
theorem q_se_X4_at : Cond.selects RX4 yX4_at yX4_at ∈ gLW := List.mem_filter.mpr ⟨List.mem_of_getElem? (i := 352) (by decide +kernel), by decide +kernel⟩
theorem q_co_X4_at : Cond.code yX4_at cX4_at 2 (some (Jvm.ClassFile.FieldType.int)) ∈ gLW := List.mem_filter.mpr ⟨List.mem_of_getElem? (i := 353) (by decide +kernel), by decide +kernel⟩
theorem q_ml_X8_218 : Cond.methodLink RX8 218 yX5_daysOfBars ∈ gLW := List.mem_filter.mpr ⟨List.mem_of_getElem? (i := 354) (by decide +kernel), by decide +kernel⟩
theorem q_im_X5_daysOfBars : Cond.instanceMethod yX5_daysOfBars ∈ gLW := List.mem_filter.mpr ⟨List.mem_of_getElem? (i := 355) (by decide +kernel), by decide +kernel⟩
theorem q_se_X5_daysOfBars : Cond.selects RX5 yX5_daysOfBars yX5_daysOfBars ∈ gLW := List.mem_filter.mpr ⟨List.mem_of_getElem? (i := 356) (by decide +kernel), by decide +kernel⟩
theorem q_co_X5_daysOfBars : Cond.code yX5_daysOfBars cX5_daysOfBars 3 (some (Jvm.ClassFile.FieldType.int)) ∈ gLW := List.mem_filter.mpr ⟨List.mem_of_getElem? (i := 357) (by decide +kernel), by decide +kernel⟩
theorem q_ml_X5_70 : Cond.methodLink RX5 70 yX5_length ∈ gLW := List.mem_filter.mpr ⟨List.mem_of_getElem? (i := 358) (by decide +kernel), by decide +kernel⟩
theorem q_im_X5_length : Cond.instanceMethod yX5_length ∈ gLW := List.mem_filter.mpr ⟨List.mem_of_getElem? (i := 359) (by decide +kernel), by decide +kernel⟩
theorem q_se_X5_length : Cond.selects RX5 yX5_length yX5_length ∈ gLW := List.mem_filter.mpr ⟨List.mem_of_getElem? (i := 360) (by decide +kernel), by decide +kernel⟩
theorem q_co_X5_length : Cond.code yX5_length cX5_length 2 (some (Jvm.ClassFile.FieldType.int)) ∈ gLW := List.mem_filter.mpr ⟨List.mem_of_getElem? (i := 361) (by decide +kernel), by decide +kernel⟩
theorem q_ml_L_149 : Cond.methodLink RL 149 yX8_fewestExits ∈ gLW := List.mem_filter.mpr ⟨List.mem_of_getElem? (i := 362) (by decide +kernel), by decide +kernel⟩
theorem q_im_X8_fewestExits : Cond.instanceMethod yX8_fewestExits ∈ gLW := List.mem_filter.mpr ⟨List.mem_of_getElem? (i := 363) (by decide +kernel), by decide +kernel⟩
theorem q_se_X8_fewestExits : Cond.selects RX8 yX8_fewestExits yX8_fewestExits ∈ gLW := List.mem_filter.mpr ⟨List.mem_of_getElem? (i := 364) (by decide +kernel), by decide +kernel⟩
theorem q_co_X8_fewestExits : Cond.code yX8_fewestExits cX8_fewestExits 5 (some (Jvm.ClassFile.FieldType.int)) ∈ gLW := List.mem_filter.mpr ⟨List.mem_of_getElem? (i := 365) (by decide +kernel), by decide +kernel⟩
theorem q_ml_X8_231 : Cond.methodLink RX8 231 yX8_exitsWith ∈ gLW := List.mem_filter.mpr ⟨List.mem_of_getElem? (i := 366) (by decide +kernel), by decide +kernel⟩
theorem q_im_X8_exitsWith : Cond.instanceMethod yX8_exitsWith ∈ gLW := List.mem_filter.mpr ⟨List.mem_of_getElem? (i := 368) (by decide +kernel), by decide +kernel⟩
theorem q_co_X8_exitsWith : Cond.code yX8_exitsWith cX8_exitsWith 7 (some (Jvm.ClassFile.FieldType.int)) ∈ gLW := List.mem_filter.mpr ⟨List.mem_of_getElem? (i := 369) (by decide +kernel), by decide +kernel⟩
theorem q_ml_X8_137 : Cond.methodLink RX8 137 yX5_arrowCount ∈ gLW := List.mem_filter.mpr ⟨List.mem_of_getElem? (i := 370) (by decide +kernel), by decide +kernel⟩
theorem q_im_X5_arrowCount : Cond.instanceMethod yX5_arrowCount ∈ gLW := List.mem_filter.mpr ⟨List.mem_of_getElem? (i := 371) (by decide +kernel), by decide +kernel⟩
theorem q_se_X5_arrowCount : Cond.selects RX5 yX5_arrowCount yX5_arrowCount ∈ gLW := List.mem_filter.mpr ⟨List.mem_of_getElem? (i := 372) (by decide +kernel), by decide +kernel⟩
theorem q_co_X5_arrowCount : Cond.code yX5_arrowCount cX5_arrowCount 1 (some (Jvm.ClassFile.FieldType.int)) ∈ gLW := List.mem_filter.mpr ⟨List.mem_of_getElem? (i := 373) (by decide +kernel), by decide +kernel⟩
theorem q_ml_X8_237 : Cond.methodLink RX8 237 yX5_from ∈ gLW := List.mem_filter.mpr ⟨List.mem_of_getElem? (i := 374) (by decide +kernel), by decide +kernel⟩
theorem q_im_X5_from : Cond.instanceMethod yX5_from ∈ gLW := List.mem_filter.mpr ⟨List.mem_of_getElem? (i := 375) (by decide +kernel), by decide +kernel⟩
theorem q_se_X5_from : Cond.selects RX5 yX5_from yX5_from ∈ gLW := List.mem_filter.mpr ⟨List.mem_of_getElem? (i := 376) (by decide +kernel), by decide +kernel⟩
theorem q_co_X5_from : Cond.code yX5_from cX5_from 2 (some (Jvm.ClassFile.FieldType.int)) ∈ gLW := List.mem_filter.mpr ⟨List.mem_of_getElem? (i := 377) (by decide +kernel), by decide +kernel⟩
theorem q_ml_X8_234 : Cond.methodLink RX8 234 yX5_to ∈ gLW := List.mem_filter.mpr ⟨List.mem_of_getElem? (i := 378) (by decide +kernel), by decide +kernel⟩
theorem q_im_X5_to : Cond.instanceMethod yX5_to ∈ gLW := List.mem_filter.mpr ⟨List.mem_of_getElem? (i := 379) (by decide +kernel), by decide +kernel⟩
theorem q_se_X5_to : Cond.selects RX5 yX5_to yX5_to ∈ gLW := List.mem_filter.mpr ⟨List.mem_of_getElem? (i := 380) (by decide +kernel), by decide +kernel⟩
theorem q_co_X5_to : Cond.code yX5_to cX5_to 2 (some (Jvm.ClassFile.FieldType.int)) ∈ gLW := List.mem_filter.mpr ⟨List.mem_of_getElem? (i := 381) (by decide +kernel), by decide +kernel⟩
theorem q_ml_X8_240 : Cond.methodLink RX8 240 yX5_last ∈ gLW := List.mem_filter.mpr ⟨List.mem_of_getElem? (i := 382) (by decide +kernel), by decide +kernel⟩
theorem q_im_X5_last : Cond.instanceMethod yX5_last ∈ gLW := List.mem_filter.mpr ⟨List.mem_of_getElem? (i := 383) (by decide +kernel), by decide +kernel⟩
theorem q_se_X5_last : Cond.selects RX5 yX5_last yX5_last ∈ gLW := List.mem_filter.mpr ⟨List.mem_of_getElem? (i := 384) (by decide +kernel), by decide +kernel⟩
theorem q_co_X5_last : Cond.code yX5_last cX5_last 2 (some (Jvm.ClassFile.FieldType.int)) ∈ gLW := List.mem_filter.mpr ⟨List.mem_of_getElem? (i := 385) (by decide +kernel), by decide +kernel⟩
theorem q_ml_X8_322 : Cond.methodLink RX8 322 yX8_stripOfDay ∈ gLW := List.mem_filter.mpr ⟨List.mem_of_getElem? (i := 386) (by decide +kernel), by decide +kernel⟩
theorem q_st_X8_stripOfDay : Cond.static yX8_stripOfDay ∈ gLW := List.mem_filter.mpr ⟨List.mem_of_getElem? (i := 387) (by decide +kernel), by decide +kernel⟩
theorem q_co_X8_stripOfDay : Cond.code yX8_stripOfDay cX8_stripOfDay 2 (some (Jvm.ClassFile.FieldType.int)) ∈ gLW := List.mem_filter.mpr ⟨List.mem_of_getElem? (i := 388) (by decide +kernel), by decide +kernel⟩
theorem q_ml_X8_122 : Cond.methodLink RX8 122 yX5_first ∈ gLW := List.mem_filter.mpr ⟨List.mem_of_getElem? (i := 389) (by decide +kernel), by decide +kernel⟩
theorem q_im_X5_first : Cond.instanceMethod yX5_first ∈ gLW := List.mem_filter.mpr ⟨List.mem_of_getElem? (i := 390) (by decide +kernel), by decide +kernel⟩
theorem q_se_X5_first : Cond.selects RX5 yX5_first yX5_first ∈ gLW := List.mem_filter.mpr ⟨List.mem_of_getElem? (i := 391) (by decide +kernel), by decide +kernel⟩
theorem q_co_X5_first : Cond.code yX5_first cX5_first 2 (some (Jvm.ClassFile.FieldType.int)) ∈ gLW := List.mem_filter.mpr ⟨List.mem_of_getElem? (i := 392) (by decide +kernel), by decide +kernel⟩
theorem q_ml_X8_325 : Cond.methodLink RX8 325 yX0_bandOf ∈ gLW := List.mem_filter.mpr ⟨List.mem_of_getElem? (i := 393) (by decide +kernel), by decide +kernel⟩
theorem q_im_X0_bandOf : Cond.instanceMethod yX0_bandOf ∈ gLW := List.mem_filter.mpr ⟨List.mem_of_getElem? (i := 394) (by decide +kernel), by decide +kernel⟩
theorem q_se_X0_bandOf : Cond.selects RX0 yX0_bandOf yX0_bandOf ∈ gLW := List.mem_filter.mpr ⟨List.mem_of_getElem? (i := 395) (by decide +kernel), by decide +kernel⟩
theorem q_co_X0_bandOf : Cond.code yX0_bandOf cX0_bandOf 2 (some (Jvm.ClassFile.FieldType.int)) ∈ gLW := List.mem_filter.mpr ⟨List.mem_of_getElem? (i := 396) (by decide +kernel), by decide +kernel⟩
theorem q_ml_X0_33 : Cond.methodLink RX0 33 yX4_at ∈ gLW := List.mem_filter.mpr ⟨List.mem_of_getElem? (i := 397) (by decide +kernel), by decide +kernel⟩
theorem q_ml_L_156 : Cond.methodLink RL 156 yX8_longestChain ∈ gLW := List.mem_filter.mpr ⟨List.mem_of_getElem? (i := 398) (by decide +kernel), by decide +kernel⟩
theorem q_im_X8_longestChain : Cond.instanceMethod yX8_longestChain ∈ gLW := List.mem_filter.mpr ⟨List.mem_of_getElem? (i := 399) (by decide +kernel), by decide +kernel⟩
theorem q_se_X8_longestChain : Cond.selects RX8 yX8_longestChain yX8_longestChain ∈ gLW := List.mem_filter.mpr ⟨List.mem_of_getElem? (i := 400) (by decide +kernel), by decide +kernel⟩
theorem q_co_X8_longestChain : Cond.code yX8_longestChain cX8_longestChain 1 (some (Jvm.ClassFile.FieldType.int)) ∈ gLW := List.mem_filter.mpr ⟨List.mem_of_getElem? (i := 401) (by decide +kernel), by decide +kernel⟩
theorem q_ml_X8_248 : Cond.methodLink RX8 248 yX1_longest ∈ gLW := List.mem_filter.mpr ⟨List.mem_of_getElem? (i := 402) (by decide +kernel), by decide +kernel⟩
theorem q_im_X1_longest : Cond.instanceMethod yX1_longest ∈ gLW := List.mem_filter.mpr ⟨List.mem_of_getElem? (i := 403) (by decide +kernel), by decide +kernel⟩
theorem q_se_X1_longest : Cond.selects RX1 yX1_longest yX1_longest ∈ gLW := List.mem_filter.mpr ⟨List.mem_of_getElem? (i := 404) (by decide +kernel), by decide +kernel⟩
theorem q_co_X1_longest : Cond.code yX1_longest cX1_longest 5 (some (Jvm.ClassFile.FieldType.int)) ∈ gLW := List.mem_filter.mpr ⟨List.mem_of_getElem? (i := 405) (by decide +kernel), by decide +kernel⟩
theorem q_ml_X1_20 : Cond.methodLink RX1 20 yX5_taskCount ∈ gLW := List.mem_filter.mpr ⟨List.mem_of_getElem? (i := 406) (by decide +kernel), by decide +kernel⟩
theorem q_im_X5_taskCount : Cond.instanceMethod yX5_taskCount ∈ gLW := List.mem_filter.mpr ⟨List.mem_of_getElem? (i := 407) (by decide +kernel), by decide +kernel⟩
theorem q_se_X5_taskCount : Cond.selects RX5 yX5_taskCount yX5_taskCount ∈ gLW := List.mem_filter.mpr ⟨List.mem_of_getElem? (i := 408) (by decide +kernel), by decide +kernel⟩
theorem q_co_X5_taskCount : Cond.code yX5_taskCount cX5_taskCount 1 (some (Jvm.ClassFile.FieldType.int)) ∈ gLW := List.mem_filter.mpr ⟨List.mem_of_getElem? (i := 409) (by decide +kernel), by decide +kernel⟩
theorem q_ml_X1_26 : Cond.methodLink RX1 26 yX4_fill ∈ gLW := List.mem_filter.mpr ⟨List.mem_of_getElem? (i := 410) (by decide +kernel), by decide +kernel⟩
theorem q_im_X4_fill : Cond.instanceMethod yX4_fill ∈ gLW := List.mem_filter.mpr ⟨List.mem_of_getElem? (i := 411) (by decide +kernel), by decide +kernel⟩
theorem q_se_X4_fill : Cond.selects RX4 yX4_fill yX4_fill ∈ gLW := List.mem_filter.mpr ⟨List.mem_of_getElem? (i := 412) (by decide +kernel), by decide +kernel⟩
theorem q_co_X4_fill : Cond.code yX4_fill cX4_fill 5 none ∈ gLW := List.mem_filter.mpr ⟨List.mem_of_getElem? (i := 413) (by decide +kernel), by decide +kernel⟩
theorem q_ml_X1_30 : Cond.methodLink RX1 30 yX1_growOnce ∈ gLW := List.mem_filter.mpr ⟨List.mem_of_getElem? (i := 414) (by decide +kernel), by decide +kernel⟩
theorem q_im_X1_growOnce : Cond.instanceMethod yX1_growOnce ∈ gLW := List.mem_filter.mpr ⟨List.mem_of_getElem? (i := 416) (by decide +kernel), by decide +kernel⟩
theorem q_co_X1_growOnce : Cond.code yX1_growOnce cX1_growOnce 5 (some (Jvm.ClassFile.FieldType.boolean)) ∈ gLW := List.mem_filter.mpr ⟨List.mem_of_getElem? (i := 417) (by decide +kernel), by decide +kernel⟩
theorem q_ml_X1_44 : Cond.methodLink RX1 44 yX5_arrowCount ∈ gLW := List.mem_filter.mpr ⟨List.mem_of_getElem? (i := 418) (by decide +kernel), by decide +kernel⟩
theorem q_ml_X1_47 : Cond.methodLink RX1 47 yX5_from ∈ gLW := List.mem_filter.mpr ⟨List.mem_of_getElem? (i := 419) (by decide +kernel), by decide +kernel⟩
theorem q_ml_X1_34 : Cond.methodLink RX1 34 yX4_at ∈ gLW := List.mem_filter.mpr ⟨List.mem_of_getElem? (i := 420) (by decide +kernel), by decide +kernel⟩
theorem q_ml_X1_50 : Cond.methodLink RX1 50 yX5_isLate ∈ gLW := List.mem_filter.mpr ⟨List.mem_of_getElem? (i := 421) (by decide +kernel), by decide +kernel⟩
theorem q_im_X5_isLate : Cond.instanceMethod yX5_isLate ∈ gLW := List.mem_filter.mpr ⟨List.mem_of_getElem? (i := 422) (by decide +kernel), by decide +kernel⟩
theorem q_se_X5_isLate : Cond.selects RX5 yX5_isLate yX5_isLate ∈ gLW := List.mem_filter.mpr ⟨List.mem_of_getElem? (i := 423) (by decide +kernel), by decide +kernel⟩
theorem q_co_X5_isLate : Cond.code yX5_isLate cX5_isLate 2 (some (Jvm.ClassFile.FieldType.boolean)) ∈ gLW := List.mem_filter.mpr ⟨List.mem_of_getElem? (i := 424) (by decide +kernel), by decide +kernel⟩
theorem q_ml_X5_54 : Cond.methodLink RX5 54 yX5_to ∈ gLW := List.mem_filter.mpr ⟨List.mem_of_getElem? (i := 425) (by decide +kernel), by decide +kernel⟩
theorem q_ml_X5_57 : Cond.methodLink RX5 57 yX5_first ∈ gLW := List.mem_filter.mpr ⟨List.mem_of_getElem? (i := 426) (by decide +kernel), by decide +kernel⟩
theorem q_ml_X5_60 : Cond.methodLink RX5 60 yX5_from ∈ gLW := List.mem_filter.mpr ⟨List.mem_of_getElem? (i := 427) (by decide +kernel), by decide +kernel⟩
theorem q_ml_X5_63 : Cond.methodLink RX5 63 yX5_last ∈ gLW := List.mem_filter.mpr ⟨List.mem_of_getElem? (i := 428) (by decide +kernel), by decide +kernel⟩
theorem q_ml_X1_54 : Cond.methodLink RX1 54 yX5_to ∈ gLW := List.mem_filter.mpr ⟨List.mem_of_getElem? (i := 429) (by decide +kernel), by decide +kernel⟩
theorem q_ml_X1_57 : Cond.methodLink RX1 57 yX4_put ∈ gLW := List.mem_filter.mpr ⟨List.mem_of_getElem? (i := 430) (by decide +kernel), by decide +kernel⟩
theorem q_ml_X1_38 : Cond.methodLink RX1 38 yJ9_max_7cf53 ∈ gLW := List.mem_filter.mpr ⟨List.mem_of_getElem? (i := 431) (by decide +kernel), by decide +kernel⟩
theorem q_st_J9_max_7cf53 : Cond.static yJ9_max_7cf53 ∈ gLW := List.mem_filter.mpr ⟨List.mem_of_getElem? (i := 432) (by decide +kernel), by decide +kernel⟩
theorem q_co_J9_max_7cf53 : Cond.code yJ9_max_7cf53 prog_16_method_65_code 2 (some (Jvm.ClassFile.FieldType.int)) ∈ gLW := List.mem_filter.mpr ⟨List.mem_of_getElem? (i := 433) (by decide +kernel), by decide +kernel⟩
theorem q_ml_L_163 : Cond.methodLink RL 163 yX8_clearText ∈ gLW := List.mem_filter.mpr ⟨List.mem_of_getElem? (i := 434) (by decide +kernel), by decide +kernel⟩
theorem q_im_X8_clearText : Cond.instanceMethod yX8_clearText ∈ gLW := List.mem_filter.mpr ⟨List.mem_of_getElem? (i := 435) (by decide +kernel), by decide +kernel⟩
theorem q_se_X8_clearText : Cond.selects RX8 yX8_clearText yX8_clearText ∈ gLW := List.mem_filter.mpr ⟨List.mem_of_getElem? (i := 436) (by decide +kernel), by decide +kernel⟩
theorem q_co_X8_clearText : Cond.code yX8_clearText cX8_clearText 2 (some (Jvm.ClassFile.FieldType.int)) ∈ gLW := List.mem_filter.mpr ⟨List.mem_of_getElem? (i := 437) (by decide +kernel), by decide +kernel⟩
theorem q_ml_X8_254 : Cond.methodLink RX8 254 yX7_length ∈ gLW := List.mem_filter.mpr ⟨List.mem_of_getElem? (i := 438) (by decide +kernel), by decide +kernel⟩
theorem q_im_X7_length : Cond.instanceMethod yX7_length ∈ gLW := List.mem_filter.mpr ⟨List.mem_of_getElem? (i := 439) (by decide +kernel), by decide +kernel⟩
theorem q_se_X7_length : Cond.selects RX7 yX7_length yX7_length ∈ gLW := List.mem_filter.mpr ⟨List.mem_of_getElem? (i := 440) (by decide +kernel), by decide +kernel⟩
theorem q_co_X7_length : Cond.code yX7_length cX7_length 1 (some (Jvm.ClassFile.FieldType.int)) ∈ gLW := List.mem_filter.mpr ⟨List.mem_of_getElem? (i := 441) (by decide +kernel), by decide +kernel⟩
theorem q_ml_X8_262 : Cond.methodLink RX8 262 yX7_empty ∈ gLW := List.mem_filter.mpr ⟨List.mem_of_getElem? (i := 442) (by decide +kernel), by decide +kernel⟩
theorem q_im_X7_empty : Cond.instanceMethod yX7_empty ∈ gLW := List.mem_filter.mpr ⟨List.mem_of_getElem? (i := 443) (by decide +kernel), by decide +kernel⟩
theorem q_se_X7_empty : Cond.selects RX7 yX7_empty yX7_empty ∈ gLW := List.mem_filter.mpr ⟨List.mem_of_getElem? (i := 444) (by decide +kernel), by decide +kernel⟩
theorem q_co_X7_empty : Cond.code yX7_empty cX7_empty 1 none ∈ gLW := List.mem_filter.mpr ⟨List.mem_of_getElem? (i := 445) (by decide +kernel), by decide +kernel⟩
theorem q_ml_L_167 : Cond.methodLink RL 167 yX8_parse ∈ gLW := List.mem_filter.mpr ⟨List.mem_of_getElem? (i := 446) (by decide +kernel), by decide +kernel⟩
theorem q_im_X8_parse : Cond.instanceMethod yX8_parse ∈ gLW := List.mem_filter.mpr ⟨List.mem_of_getElem? (i := 447) (by decide +kernel), by decide +kernel⟩
theorem q_se_X8_parse : Cond.selects RX8 yX8_parse yX8_parse ∈ gLW := List.mem_filter.mpr ⟨List.mem_of_getElem? (i := 448) (by decide +kernel), by decide +kernel⟩
theorem q_co_X8_parse : Cond.code yX8_parse cX8_parse 2 (some (Jvm.ClassFile.FieldType.int)) ∈ gLW := List.mem_filter.mpr ⟨List.mem_of_getElem? (i := 449) (by decide +kernel), by decide +kernel⟩
theorem q_ml_X8_265 : Cond.methodLink RX8 265 yX7_read ∈ gLW := List.mem_filter.mpr ⟨List.mem_of_getElem? (i := 450) (by decide +kernel), by decide +kernel⟩
theorem q_im_X7_read : Cond.instanceMethod yX7_read ∈ gLW := List.mem_filter.mpr ⟨List.mem_of_getElem? (i := 451) (by decide +kernel), by decide +kernel⟩
theorem q_se_X7_read : Cond.selects RX7 yX7_read yX7_read ∈ gLW := List.mem_filter.mpr ⟨List.mem_of_getElem? (i := 452) (by decide +kernel), by decide +kernel⟩
theorem q_co_X7_read : Cond.code yX7_read cX7_read 4 (some (Jvm.ClassFile.FieldType.int)) ∈ gLW := List.mem_filter.mpr ⟨List.mem_of_getElem? (i := 453) (by decide +kernel), by decide +kernel⟩
theorem q_ml_X7_28 : Cond.methodLink RX7 28 yX5_forgetTasksAndArrows ∈ gLW := List.mem_filter.mpr ⟨List.mem_of_getElem? (i := 454) (by decide +kernel), by decide +kernel⟩
theorem q_im_X5_forgetTasksAndArrows : Cond.instanceMethod yX5_forgetTasksAndArrows ∈ gLW := List.mem_filter.mpr ⟨List.mem_of_getElem? (i := 455) (by decide +kernel), by decide +kernel⟩
theorem q_se_X5_forgetTasksAndArrows : Cond.selects RX5 yX5_forgetTasksAndArrows yX5_forgetTasksAndArrows ∈ gLW := List.mem_filter.mpr ⟨List.mem_of_getElem? (i := 456) (by decide +kernel), by decide +kernel⟩
theorem q_co_X5_forgetTasksAndArrows : Cond.code yX5_forgetTasksAndArrows cX5_forgetTasksAndArrows 1 none ∈ gLW := List.mem_filter.mpr ⟨List.mem_of_getElem? (i := 457) (by decide +kernel), by decide +kernel⟩
theorem q_ml_X7_39 : Cond.methodLink RX7 39 yX7_next ∈ gLW := List.mem_filter.mpr ⟨List.mem_of_getElem? (i := 458) (by decide +kernel), by decide +kernel⟩
theorem q_im_X7_next : Cond.instanceMethod yX7_next ∈ gLW := List.mem_filter.mpr ⟨List.mem_of_getElem? (i := 460) (by decide +kernel), by decide +kernel⟩
theorem q_co_X7_next : Cond.code yX7_next cX7_next 1 (some (Jvm.ClassFile.FieldType.int)) ∈ gLW := List.mem_filter.mpr ⟨List.mem_of_getElem? (i := 461) (by decide +kernel), by decide +kernel⟩
theorem q_ml_X7_83 : Cond.methodLink RX7 83 yX4_at ∈ gLW := List.mem_filter.mpr ⟨List.mem_of_getElem? (i := 462) (by decide +kernel), by decide +kernel⟩
theorem q_ml_X7_43 : Cond.methodLink RX7 43 yX7_readTask ∈ gLW := List.mem_filter.mpr ⟨List.mem_of_getElem? (i := 463) (by decide +kernel), by decide +kernel⟩
theorem q_im_X7_readTask : Cond.instanceMethod yX7_readTask ∈ gLW := List.mem_filter.mpr ⟨List.mem_of_getElem? (i := 465) (by decide +kernel), by decide +kernel⟩
theorem q_co_X7_readTask : Cond.code yX7_readTask cX7_readTask 4 (some (Jvm.ClassFile.FieldType.boolean)) ∈ gLW := List.mem_filter.mpr ⟨List.mem_of_getElem? (i := 466) (by decide +kernel), by decide +kernel⟩
theorem q_ml_X7_50 : Cond.methodLink RX7 50 yX7_fail ∈ gLW := List.mem_filter.mpr ⟨List.mem_of_getElem? (i := 467) (by decide +kernel), by decide +kernel⟩
theorem q_im_X7_fail : Cond.instanceMethod yX7_fail ∈ gLW := List.mem_filter.mpr ⟨List.mem_of_getElem? (i := 469) (by decide +kernel), by decide +kernel⟩
theorem q_co_X7_fail : Cond.code yX7_fail cX7_fail 2 (some (Jvm.ClassFile.FieldType.boolean)) ∈ gLW := List.mem_filter.mpr ⟨List.mem_of_getElem? (i := 470) (by decide +kernel), by decide +kernel⟩
theorem q_ml_X7_54 : Cond.methodLink RX7 54 yX7_readSign ∈ gLW := List.mem_filter.mpr ⟨List.mem_of_getElem? (i := 471) (by decide +kernel), by decide +kernel⟩
theorem q_im_X7_readSign : Cond.instanceMethod yX7_readSign ∈ gLW := List.mem_filter.mpr ⟨List.mem_of_getElem? (i := 473) (by decide +kernel), by decide +kernel⟩
theorem q_co_X7_readSign : Cond.code yX7_readSign cX7_readSign 2 (some (Jvm.ClassFile.FieldType.boolean)) ∈ gLW := List.mem_filter.mpr ⟨List.mem_of_getElem? (i := 474) (by decide +kernel), by decide +kernel⟩
theorem q_ml_X7_57 : Cond.methodLink RX7 57 yX7_readNumber ∈ gLW := List.mem_filter.mpr ⟨List.mem_of_getElem? (i := 475) (by decide +kernel), by decide +kernel⟩
theorem q_im_X7_readNumber : Cond.instanceMethod yX7_readNumber ∈ gLW := List.mem_filter.mpr ⟨List.mem_of_getElem? (i := 477) (by decide +kernel), by decide +kernel⟩
theorem q_co_X7_readNumber : Cond.code yX7_readNumber cX7_readNumber 5 (some (Jvm.ClassFile.FieldType.boolean)) ∈ gLW := List.mem_filter.mpr ⟨List.mem_of_getElem? (i := 478) (by decide +kernel), by decide +kernel⟩
theorem q_ml_X7_79 : Cond.methodLink RX7 79 yX7_nextIsDigit ∈ gLW := List.mem_filter.mpr ⟨List.mem_of_getElem? (i := 479) (by decide +kernel), by decide +kernel⟩
theorem q_im_X7_nextIsDigit : Cond.instanceMethod yX7_nextIsDigit ∈ gLW := List.mem_filter.mpr ⟨List.mem_of_getElem? (i := 481) (by decide +kernel), by decide +kernel⟩
theorem q_co_X7_nextIsDigit : Cond.code yX7_nextIsDigit cX7_nextIsDigit 1 (some (Jvm.ClassFile.FieldType.boolean)) ∈ gLW := List.mem_filter.mpr ⟨List.mem_of_getElem? (i := 482) (by decide +kernel), by decide +kernel⟩
theorem q_ml_X7_64 : Cond.methodLink RX7 64 yX5_tellTask ∈ gLW := List.mem_filter.mpr ⟨List.mem_of_getElem? (i := 483) (by decide +kernel), by decide +kernel⟩
theorem q_im_X5_tellTask : Cond.instanceMethod yX5_tellTask ∈ gLW := List.mem_filter.mpr ⟨List.mem_of_getElem? (i := 484) (by decide +kernel), by decide +kernel⟩
theorem q_se_X5_tellTask : Cond.selects RX5 yX5_tellTask yX5_tellTask ∈ gLW := List.mem_filter.mpr ⟨List.mem_of_getElem? (i := 485) (by decide +kernel), by decide +kernel⟩
theorem q_co_X5_tellTask : Cond.code yX5_tellTask cX5_tellTask 4 (some (Jvm.ClassFile.FieldType.int)) ∈ gLW := List.mem_filter.mpr ⟨List.mem_of_getElem? (i := 486) (by decide +kernel), by decide +kernel⟩
theorem q_ml_X5_73 : Cond.methodLink RX5 73 yX5_putBar ∈ gLW := List.mem_filter.mpr ⟨List.mem_of_getElem? (i := 487) (by decide +kernel), by decide +kernel⟩
theorem q_im_X5_putBar : Cond.instanceMethod yX5_putBar ∈ gLW := List.mem_filter.mpr ⟨List.mem_of_getElem? (i := 488) (by decide +kernel), by decide +kernel⟩
theorem q_se_X5_putBar : Cond.selects RX5 yX5_putBar yX5_putBar ∈ gLW := List.mem_filter.mpr ⟨List.mem_of_getElem? (i := 489) (by decide +kernel), by decide +kernel⟩
theorem q_co_X5_putBar : Cond.code yX5_putBar cX5_putBar 4 none ∈ gLW := List.mem_filter.mpr ⟨List.mem_of_getElem? (i := 490) (by decide +kernel), by decide +kernel⟩
theorem q_ml_X7_47 : Cond.methodLink RX7 47 yX7_readArrow ∈ gLW := List.mem_filter.mpr ⟨List.mem_of_getElem? (i := 491) (by decide +kernel), by decide +kernel⟩
theorem q_im_X7_readArrow : Cond.instanceMethod yX7_readArrow ∈ gLW := List.mem_filter.mpr ⟨List.mem_of_getElem? (i := 493) (by decide +kernel), by decide +kernel⟩
theorem q_co_X7_readArrow : Cond.code yX7_readArrow cX7_readArrow 4 (some (Jvm.ClassFile.FieldType.boolean)) ∈ gLW := List.mem_filter.mpr ⟨List.mem_of_getElem? (i := 494) (by decide +kernel), by decide +kernel⟩
theorem q_ml_X7_68 : Cond.methodLink RX7 68 yX5_taskCount ∈ gLW := List.mem_filter.mpr ⟨List.mem_of_getElem? (i := 495) (by decide +kernel), by decide +kernel⟩
theorem q_ml_X7_71 : Cond.methodLink RX7 71 yX5_hasArrowBetween ∈ gLW := List.mem_filter.mpr ⟨List.mem_of_getElem? (i := 496) (by decide +kernel), by decide +kernel⟩
theorem q_im_X5_hasArrowBetween : Cond.instanceMethod yX5_hasArrowBetween ∈ gLW := List.mem_filter.mpr ⟨List.mem_of_getElem? (i := 497) (by decide +kernel), by decide +kernel⟩
theorem q_se_X5_hasArrowBetween : Cond.selects RX5 yX5_hasArrowBetween yX5_hasArrowBetween ∈ gLW := List.mem_filter.mpr ⟨List.mem_of_getElem? (i := 498) (by decide +kernel), by decide +kernel⟩
theorem q_co_X5_hasArrowBetween : Cond.code yX5_hasArrowBetween cX5_hasArrowBetween 4 (some (Jvm.ClassFile.FieldType.boolean)) ∈ gLW := List.mem_filter.mpr ⟨List.mem_of_getElem? (i := 499) (by decide +kernel), by decide +kernel⟩
theorem q_ml_X7_75 : Cond.methodLink RX7 75 yX5_tellArrow ∈ gLW := List.mem_filter.mpr ⟨List.mem_of_getElem? (i := 500) (by decide +kernel), by decide +kernel⟩
theorem q_im_X5_tellArrow : Cond.instanceMethod yX5_tellArrow ∈ gLW := List.mem_filter.mpr ⟨List.mem_of_getElem? (i := 501) (by decide +kernel), by decide +kernel⟩
theorem q_se_X5_tellArrow : Cond.selects RX5 yX5_tellArrow yX5_tellArrow ∈ gLW := List.mem_filter.mpr ⟨List.mem_of_getElem? (i := 502) (by decide +kernel), by decide +kernel⟩
theorem q_co_X5_tellArrow : Cond.code yX5_tellArrow cX5_tellArrow 3 (some (Jvm.ClassFile.FieldType.int)) ∈ gLW := List.mem_filter.mpr ⟨List.mem_of_getElem? (i := 503) (by decide +kernel), by decide +kernel⟩
theorem q_ml_X8_78 : Cond.methodLink RX8 78 yX3_save ∈ gLW := List.mem_filter.mpr ⟨List.mem_of_getElem? (i := 504) (by decide +kernel), by decide +kernel⟩
theorem q_im_X3_save : Cond.instanceMethod yX3_save ∈ gLW := List.mem_filter.mpr ⟨List.mem_of_getElem? (i := 505) (by decide +kernel), by decide +kernel⟩
theorem q_se_X3_save : Cond.selects RX3 yX3_save yX3_save ∈ gLW := List.mem_filter.mpr ⟨List.mem_of_getElem? (i := 506) (by decide +kernel), by decide +kernel⟩
theorem q_co_X3_save : Cond.code yX3_save cX3_save 3 none ∈ gLW := List.mem_filter.mpr ⟨List.mem_of_getElem? (i := 507) (by decide +kernel), by decide +kernel⟩
theorem q_ml_X3_25 : Cond.methodLink RX3 25 yX3_slot ∈ gLW := List.mem_filter.mpr ⟨List.mem_of_getElem? (i := 508) (by decide +kernel), by decide +kernel⟩
theorem q_im_X3_slot : Cond.instanceMethod yX3_slot ∈ gLW := List.mem_filter.mpr ⟨List.mem_of_getElem? (i := 510) (by decide +kernel), by decide +kernel⟩
theorem q_co_X3_slot : Cond.code yX3_slot cX3_slot 2 (some ((Jvm.ClassFile.FieldType.object "TaskSheets$Plan"))) ∈ gLW := List.mem_filter.mpr ⟨List.mem_of_getElem? (i := 511) (by decide +kernel), by decide +kernel⟩
theorem q_ml_X3_29 : Cond.methodLink RX3 29 yX5_copyAll ∈ gLW := List.mem_filter.mpr ⟨List.mem_of_getElem? (i := 512) (by decide +kernel), by decide +kernel⟩
theorem q_im_X5_copyAll : Cond.instanceMethod yX5_copyAll ∈ gLW := List.mem_filter.mpr ⟨List.mem_of_getElem? (i := 513) (by decide +kernel), by decide +kernel⟩
theorem q_se_X5_copyAll : Cond.selects RX5 yX5_copyAll yX5_copyAll ∈ gLW := List.mem_filter.mpr ⟨List.mem_of_getElem? (i := 514) (by decide +kernel), by decide +kernel⟩
theorem q_co_X5_copyAll : Cond.code yX5_copyAll cX5_copyAll 2 none ∈ gLW := List.mem_filter.mpr ⟨List.mem_of_getElem? (i := 515) (by decide +kernel), by decide +kernel⟩
theorem q_ml_X5_86 : Cond.methodLink RX5 86 yX4_copy ∈ gLW := List.mem_filter.mpr ⟨List.mem_of_getElem? (i := 516) (by decide +kernel), by decide +kernel⟩
theorem q_im_X4_copy : Cond.instanceMethod yX4_copy ∈ gLW := List.mem_filter.mpr ⟨List.mem_of_getElem? (i := 517) (by decide +kernel), by decide +kernel⟩
theorem q_se_X4_copy : Cond.selects RX4 yX4_copy yX4_copy ∈ gLW := List.mem_filter.mpr ⟨List.mem_of_getElem? (i := 518) (by decide +kernel), by decide +kernel⟩
theorem q_co_X4_copy : Cond.code yX4_copy cX4_copy 3 none ∈ gLW := List.mem_filter.mpr ⟨List.mem_of_getElem? (i := 519) (by decide +kernel), by decide +kernel⟩
theorem q_ml_X5_90 : Cond.methodLink RX5 90 yX5_copyTasksAndArrows ∈ gLW := List.mem_filter.mpr ⟨List.mem_of_getElem? (i := 520) (by decide +kernel), by decide +kernel⟩
theorem q_im_X5_copyTasksAndArrows : Cond.instanceMethod yX5_copyTasksAndArrows ∈ gLW := List.mem_filter.mpr ⟨List.mem_of_getElem? (i := 521) (by decide +kernel), by decide +kernel⟩
theorem q_se_X5_copyTasksAndArrows : Cond.selects RX5 yX5_copyTasksAndArrows yX5_copyTasksAndArrows ∈ gLW := List.mem_filter.mpr ⟨List.mem_of_getElem? (i := 522) (by decide +kernel), by decide +kernel⟩
theorem q_co_X5_copyTasksAndArrows : Cond.code yX5_copyTasksAndArrows cX5_copyTasksAndArrows 2 none ∈ gLW := List.mem_filter.mpr ⟨List.mem_of_getElem? (i := 523) (by decide +kernel), by decide +kernel⟩
theorem q_ml_X8_268 : Cond.methodLink RX8 268 yX5_copyTasksAndArrows ∈ gLW := List.mem_filter.mpr ⟨List.mem_of_getElem? (i := 524) (by decide +kernel), by decide +kernel⟩
theorem q_ml_X8_90 : Cond.methodLink RX8 90 yX8_printAnew ∈ gLW := List.mem_filter.mpr ⟨List.mem_of_getElem? (i := 525) (by decide +kernel), by decide +kernel⟩
theorem q_im_X8_printAnew : Cond.instanceMethod yX8_printAnew ∈ gLW := List.mem_filter.mpr ⟨List.mem_of_getElem? (i := 527) (by decide +kernel), by decide +kernel⟩
theorem q_co_X8_printAnew : Cond.code yX8_printAnew cX8_printAnew 1 none ∈ gLW := List.mem_filter.mpr ⟨List.mem_of_getElem? (i := 528) (by decide +kernel), by decide +kernel⟩
theorem q_ml_X8_223 : Cond.methodLink RX8 223 yX0_lay ∈ gLW := List.mem_filter.mpr ⟨List.mem_of_getElem? (i := 529) (by decide +kernel), by decide +kernel⟩
theorem q_im_X0_lay : Cond.instanceMethod yX0_lay ∈ gLW := List.mem_filter.mpr ⟨List.mem_of_getElem? (i := 530) (by decide +kernel), by decide +kernel⟩
theorem q_se_X0_lay : Cond.selects RX0 yX0_lay yX0_lay ∈ gLW := List.mem_filter.mpr ⟨List.mem_of_getElem? (i := 531) (by decide +kernel), by decide +kernel⟩
theorem q_co_X0_lay : Cond.code yX0_lay cX0_lay 4 none ∈ gLW := List.mem_filter.mpr ⟨List.mem_of_getElem? (i := 532) (by decide +kernel), by decide +kernel⟩
theorem q_ml_X0_43 : Cond.methodLink RX0 43 yX0_gather ∈ gLW := List.mem_filter.mpr ⟨List.mem_of_getElem? (i := 533) (by decide +kernel), by decide +kernel⟩
theorem q_im_X0_gather : Cond.instanceMethod yX0_gather ∈ gLW := List.mem_filter.mpr ⟨List.mem_of_getElem? (i := 535) (by decide +kernel), by decide +kernel⟩
theorem q_co_X0_gather : Cond.code yX0_gather cX0_gather 4 none ∈ gLW := List.mem_filter.mpr ⟨List.mem_of_getElem? (i := 536) (by decide +kernel), by decide +kernel⟩
theorem q_ml_X0_59 : Cond.methodLink RX0 59 yX5_taskCount ∈ gLW := List.mem_filter.mpr ⟨List.mem_of_getElem? (i := 537) (by decide +kernel), by decide +kernel⟩
theorem q_ml_X0_63 : Cond.methodLink RX0 63 yX5_group ∈ gLW := List.mem_filter.mpr ⟨List.mem_of_getElem? (i := 538) (by decide +kernel), by decide +kernel⟩
theorem q_im_X5_group : Cond.instanceMethod yX5_group ∈ gLW := List.mem_filter.mpr ⟨List.mem_of_getElem? (i := 539) (by decide +kernel), by decide +kernel⟩
theorem q_se_X5_group : Cond.selects RX5 yX5_group yX5_group ∈ gLW := List.mem_filter.mpr ⟨List.mem_of_getElem? (i := 540) (by decide +kernel), by decide +kernel⟩
theorem q_co_X5_group : Cond.code yX5_group cX5_group 2 (some (Jvm.ClassFile.FieldType.int)) ∈ gLW := List.mem_filter.mpr ⟨List.mem_of_getElem? (i := 541) (by decide +kernel), by decide +kernel⟩
theorem q_ml_X0_66 : Cond.methodLink RX0 66 yX0_insert ∈ gLW := List.mem_filter.mpr ⟨List.mem_of_getElem? (i := 542) (by decide +kernel), by decide +kernel⟩
theorem q_im_X0_insert : Cond.instanceMethod yX0_insert ∈ gLW := List.mem_filter.mpr ⟨List.mem_of_getElem? (i := 544) (by decide +kernel), by decide +kernel⟩
theorem q_co_X0_insert : Cond.code yX0_insert cX0_insert 4 none ∈ gLW := List.mem_filter.mpr ⟨List.mem_of_getElem? (i := 545) (by decide +kernel), by decide +kernel⟩
theorem q_ml_X0_69 : Cond.methodLink RX0 69 yX5_first ∈ gLW := List.mem_filter.mpr ⟨List.mem_of_getElem? (i := 546) (by decide +kernel), by decide +kernel⟩
theorem q_ml_X0_72 : Cond.methodLink RX0 72 yX4_put ∈ gLW := List.mem_filter.mpr ⟨List.mem_of_getElem? (i := 547) (by decide +kernel), by decide +kernel⟩
theorem q_ml_X0_50 : Cond.methodLink RX0 50 yX5_setting ∈ gLW := List.mem_filter.mpr ⟨List.mem_of_getElem? (i := 548) (by decide +kernel), by decide +kernel⟩
theorem q_ml_X0_55 : Cond.methodLink RX0 55 yX0_layGroup ∈ gLW := List.mem_filter.mpr ⟨List.mem_of_getElem? (i := 549) (by decide +kernel), by decide +kernel⟩
theorem q_im_X0_layGroup : Cond.instanceMethod yX0_layGroup ∈ gLW := List.mem_filter.mpr ⟨List.mem_of_getElem? (i := 551) (by decide +kernel), by decide +kernel⟩
theorem q_co_X0_layGroup : Cond.code yX0_layGroup cX0_layGroup 7 none ∈ gLW := List.mem_filter.mpr ⟨List.mem_of_getElem? (i := 552) (by decide +kernel), by decide +kernel⟩
theorem q_ml_X0_76 : Cond.methodLink RX0 76 yX0_beginBand ∈ gLW := List.mem_filter.mpr ⟨List.mem_of_getElem? (i := 553) (by decide +kernel), by decide +kernel⟩
theorem q_im_X0_beginBand : Cond.instanceMethod yX0_beginBand ∈ gLW := List.mem_filter.mpr ⟨List.mem_of_getElem? (i := 555) (by decide +kernel), by decide +kernel⟩
theorem q_co_X0_beginBand : Cond.code yX0_beginBand cX0_beginBand 1 none ∈ gLW := List.mem_filter.mpr ⟨List.mem_of_getElem? (i := 556) (by decide +kernel), by decide +kernel⟩
theorem q_ml_X0_82 : Cond.methodLink RX0 82 yX4_fill ∈ gLW := List.mem_filter.mpr ⟨List.mem_of_getElem? (i := 557) (by decide +kernel), by decide +kernel⟩
theorem q_ml_X0_79 : Cond.methodLink RX0 79 yX0_take ∈ gLW := List.mem_filter.mpr ⟨List.mem_of_getElem? (i := 558) (by decide +kernel), by decide +kernel⟩
theorem q_im_X0_take : Cond.instanceMethod yX0_take ∈ gLW := List.mem_filter.mpr ⟨List.mem_of_getElem? (i := 560) (by decide +kernel), by decide +kernel⟩
theorem q_co_X0_take : Cond.code yX0_take cX0_take 2 none ∈ gLW := List.mem_filter.mpr ⟨List.mem_of_getElem? (i := 561) (by decide +kernel), by decide +kernel⟩
theorem q_ml_X8_227 : Cond.methodLink RX8 227 yX6_print ∈ gLW := List.mem_filter.mpr ⟨List.mem_of_getElem? (i := 562) (by decide +kernel), by decide +kernel⟩
theorem q_im_X6_print : Cond.instanceMethod yX6_print ∈ gLW := List.mem_filter.mpr ⟨List.mem_of_getElem? (i := 563) (by decide +kernel), by decide +kernel⟩
theorem q_se_X6_print : Cond.selects RX6 yX6_print yX6_print ∈ gLW := List.mem_filter.mpr ⟨List.mem_of_getElem? (i := 564) (by decide +kernel), by decide +kernel⟩
theorem q_co_X6_print : Cond.code yX6_print cX6_print 7 none ∈ gLW := List.mem_filter.mpr ⟨List.mem_of_getElem? (i := 565) (by decide +kernel), by decide +kernel⟩
theorem q_ml_X6_47 : Cond.methodLink RX6 47 yX0_count ∈ gLW := List.mem_filter.mpr ⟨List.mem_of_getElem? (i := 566) (by decide +kernel), by decide +kernel⟩
theorem q_ml_X6_52 : Cond.methodLink RX6 52 yX4_fill ∈ gLW := List.mem_filter.mpr ⟨List.mem_of_getElem? (i := 567) (by decide +kernel), by decide +kernel⟩
theorem q_ml_X6_56 : Cond.methodLink RX6 56 yX5_taskCount ∈ gLW := List.mem_filter.mpr ⟨List.mem_of_getElem? (i := 568) (by decide +kernel), by decide +kernel⟩
theorem q_ml_X6_61 : Cond.methodLink RX6 61 yX5_last ∈ gLW := List.mem_filter.mpr ⟨List.mem_of_getElem? (i := 569) (by decide +kernel), by decide +kernel⟩
theorem q_ml_X6_67 : Cond.methodLink RX6 67 yX5_first ∈ gLW := List.mem_filter.mpr ⟨List.mem_of_getElem? (i := 571) (by decide +kernel), by decide +kernel⟩
theorem q_ml_X6_70 : Cond.methodLink RX6 70 yX0_bandOf ∈ gLW := List.mem_filter.mpr ⟨List.mem_of_getElem? (i := 572) (by decide +kernel), by decide +kernel⟩
theorem q_ml_X6_43 : Cond.methodLink RX6 43 yX6_spot ∈ gLW := List.mem_filter.mpr ⟨List.mem_of_getElem? (i := 573) (by decide +kernel), by decide +kernel⟩
theorem q_st_X6_spot : Cond.static yX6_spot ∈ gLW := List.mem_filter.mpr ⟨List.mem_of_getElem? (i := 574) (by decide +kernel), by decide +kernel⟩
theorem q_co_X6_spot : Cond.code yX6_spot cX6_spot 3 (some (Jvm.ClassFile.FieldType.int)) ∈ gLW := List.mem_filter.mpr ⟨List.mem_of_getElem? (i := 575) (by decide +kernel), by decide +kernel⟩
theorem q_ml_X6_71 : Cond.methodLink RX6 71 yX4_increase ∈ gLW := List.mem_filter.mpr ⟨List.mem_of_getElem? (i := 576) (by decide +kernel), by decide +kernel⟩
theorem q_im_X4_increase : Cond.instanceMethod yX4_increase ∈ gLW := List.mem_filter.mpr ⟨List.mem_of_getElem? (i := 577) (by decide +kernel), by decide +kernel⟩
theorem q_se_X4_increase : Cond.selects RX4 yX4_increase yX4_increase ∈ gLW := List.mem_filter.mpr ⟨List.mem_of_getElem? (i := 578) (by decide +kernel), by decide +kernel⟩
theorem q_co_X4_increase : Cond.code yX4_increase cX4_increase 2 none ∈ gLW := List.mem_filter.mpr ⟨List.mem_of_getElem? (i := 579) (by decide +kernel), by decide +kernel⟩
theorem q_ml_X4_15 : Cond.methodLink RX4 15 yX4_at ∈ gLW := List.mem_filter.mpr ⟨List.mem_of_getElem? (i := 580) (by decide +kernel), by decide +kernel⟩
theorem q_ml_X4_19 : Cond.methodLink RX4 19 yX4_put ∈ gLW := List.mem_filter.mpr ⟨List.mem_of_getElem? (i := 581) (by decide +kernel), by decide +kernel⟩
theorem q_ml_X6_74 : Cond.methodLink RX6 74 yX5_setting ∈ gLW := List.mem_filter.mpr ⟨List.mem_of_getElem? (i := 582) (by decide +kernel), by decide +kernel⟩
theorem q_ml_X6_77 : Cond.methodLink RX6 77 yX6_numberByBands ∈ gLW := List.mem_filter.mpr ⟨List.mem_of_getElem? (i := 583) (by decide +kernel), by decide +kernel⟩
theorem q_im_X6_numberByBands : Cond.instanceMethod yX6_numberByBands ∈ gLW := List.mem_filter.mpr ⟨List.mem_of_getElem? (i := 585) (by decide +kernel), by decide +kernel⟩
theorem q_co_X6_numberByBands : Cond.code yX6_numberByBands cX6_numberByBands 5 none ∈ gLW := List.mem_filter.mpr ⟨List.mem_of_getElem? (i := 586) (by decide +kernel), by decide +kernel⟩
theorem q_ml_X6_84 : Cond.methodLink RX6 84 yX6_number ∈ gLW := List.mem_filter.mpr ⟨List.mem_of_getElem? (i := 587) (by decide +kernel), by decide +kernel⟩
theorem q_im_X6_number : Cond.instanceMethod yX6_number ∈ gLW := List.mem_filter.mpr ⟨List.mem_of_getElem? (i := 589) (by decide +kernel), by decide +kernel⟩
theorem q_co_X6_number : Cond.code yX6_number cX6_number 4 none ∈ gLW := List.mem_filter.mpr ⟨List.mem_of_getElem? (i := 590) (by decide +kernel), by decide +kernel⟩
theorem q_ml_X6_33 : Cond.methodLink RX6 33 yX4_at ∈ gLW := List.mem_filter.mpr ⟨List.mem_of_getElem? (i := 591) (by decide +kernel), by decide +kernel⟩
theorem q_ml_X6_87 : Cond.methodLink RX6 87 yX4_put ∈ gLW := List.mem_filter.mpr ⟨List.mem_of_getElem? (i := 592) (by decide +kernel), by decide +kernel⟩
theorem q_ml_X6_81 : Cond.methodLink RX6 81 yX6_numberByStrips ∈ gLW := List.mem_filter.mpr ⟨List.mem_of_getElem? (i := 593) (by decide +kernel), by decide +kernel⟩
theorem q_im_X6_numberByStrips : Cond.instanceMethod yX6_numberByStrips ∈ gLW := List.mem_filter.mpr ⟨List.mem_of_getElem? (i := 595) (by decide +kernel), by decide +kernel⟩
theorem q_co_X6_numberByStrips : Cond.code yX6_numberByStrips cX6_numberByStrips 5 none ∈ gLW := List.mem_filter.mpr ⟨List.mem_of_getElem? (i := 596) (by decide +kernel), by decide +kernel⟩
theorem q_ml_X8_294 : Cond.methodLink RX8 294 yX2_draw ∈ gLW := List.mem_filter.mpr ⟨List.mem_of_getElem? (i := 597) (by decide +kernel), by decide +kernel⟩
theorem q_im_X2_draw : Cond.instanceMethod yX2_draw ∈ gLW := List.mem_filter.mpr ⟨List.mem_of_getElem? (i := 598) (by decide +kernel), by decide +kernel⟩
theorem q_se_X2_draw : Cond.selects RX2 yX2_draw yX2_draw ∈ gLW := List.mem_filter.mpr ⟨List.mem_of_getElem? (i := 599) (by decide +kernel), by decide +kernel⟩
theorem q_co_X2_draw : Cond.code yX2_draw cX2_draw 10 none ∈ gLW := List.mem_filter.mpr ⟨List.mem_of_getElem? (i := 600) (by decide +kernel), by decide +kernel⟩
theorem q_ml_X2_43 : Cond.methodLink RX2 43 yX5_setting ∈ gLW := List.mem_filter.mpr ⟨List.mem_of_getElem? (i := 601) (by decide +kernel), by decide +kernel⟩
theorem q_ml_X2_48 : Cond.methodLink RX2 48 yX6_count ∈ gLW := List.mem_filter.mpr ⟨List.mem_of_getElem? (i := 602) (by decide +kernel), by decide +kernel⟩
theorem q_ml_X2_53 : Cond.methodLink RX2 53 yX4_fill ∈ gLW := List.mem_filter.mpr ⟨List.mem_of_getElem? (i := 603) (by decide +kernel), by decide +kernel⟩
theorem q_ml_X2_57 : Cond.methodLink RX2 57 yX5_arrowCount ∈ gLW := List.mem_filter.mpr ⟨List.mem_of_getElem? (i := 604) (by decide +kernel), by decide +kernel⟩
theorem q_ml_X2_60 : Cond.methodLink RX2 60 yX5_from ∈ gLW := List.mem_filter.mpr ⟨List.mem_of_getElem? (i := 605) (by decide +kernel), by decide +kernel⟩
theorem q_ml_X2_63 : Cond.methodLink RX2 63 yX5_to ∈ gLW := List.mem_filter.mpr ⟨List.mem_of_getElem? (i := 606) (by decide +kernel), by decide +kernel⟩
theorem q_ml_X2_66 : Cond.methodLink RX2 66 yX0_bandOf ∈ gLW := List.mem_filter.mpr ⟨List.mem_of_getElem? (i := 607) (by decide +kernel), by decide +kernel⟩
theorem q_ml_X2_71 : Cond.methodLink RX2 71 yX5_last ∈ gLW := List.mem_filter.mpr ⟨List.mem_of_getElem? (i := 608) (by decide +kernel), by decide +kernel⟩
theorem q_ml_X2_78 : Cond.methodLink RX2 78 yX6_numberAt ∈ gLW := List.mem_filter.mpr ⟨List.mem_of_getElem? (i := 610) (by decide +kernel), by decide +kernel⟩
theorem q_im_X6_numberAt : Cond.instanceMethod yX6_numberAt ∈ gLW := List.mem_filter.mpr ⟨List.mem_of_getElem? (i := 611) (by decide +kernel), by decide +kernel⟩
theorem q_se_X6_numberAt : Cond.selects RX6 yX6_numberAt yX6_numberAt ∈ gLW := List.mem_filter.mpr ⟨List.mem_of_getElem? (i := 612) (by decide +kernel), by decide +kernel⟩
theorem q_co_X6_numberAt : Cond.code yX6_numberAt cX6_numberAt 3 (some (Jvm.ClassFile.FieldType.int)) ∈ gLW := List.mem_filter.mpr ⟨List.mem_of_getElem? (i := 613) (by decide +kernel), by decide +kernel⟩
theorem q_ml_X2_81 : Cond.methodLink RX2 81 yX5_first ∈ gLW := List.mem_filter.mpr ⟨List.mem_of_getElem? (i := 614) (by decide +kernel), by decide +kernel⟩
theorem q_ml_X2_84 : Cond.methodLink RX2 84 yX4_put ∈ gLW := List.mem_filter.mpr ⟨List.mem_of_getElem? (i := 615) (by decide +kernel), by decide +kernel⟩
theorem q_ml_X2_88 : Cond.methodLink RX2 88 yX2_drawInside ∈ gLW := List.mem_filter.mpr ⟨List.mem_of_getElem? (i := 616) (by decide +kernel), by decide +kernel⟩
theorem q_im_X2_drawInside : Cond.instanceMethod yX2_drawInside ∈ gLW := List.mem_filter.mpr ⟨List.mem_of_getElem? (i := 618) (by decide +kernel), by decide +kernel⟩
theorem q_co_X2_drawInside : Cond.code yX2_drawInside cX2_drawInside 3 none ∈ gLW := List.mem_filter.mpr ⟨List.mem_of_getElem? (i := 619) (by decide +kernel), by decide +kernel⟩
theorem q_ml_X2_94 : Cond.methodLink RX2 94 yX4_increase ∈ gLW := List.mem_filter.mpr ⟨List.mem_of_getElem? (i := 620) (by decide +kernel), by decide +kernel⟩
theorem q_ml_X2_91 : Cond.methodLink RX2 91 yX2_drawThroughExit ∈ gLW := List.mem_filter.mpr ⟨List.mem_of_getElem? (i := 621) (by decide +kernel), by decide +kernel⟩
theorem q_im_X2_drawThroughExit : Cond.instanceMethod yX2_drawThroughExit ∈ gLW := List.mem_filter.mpr ⟨List.mem_of_getElem? (i := 623) (by decide +kernel), by decide +kernel⟩
theorem q_co_X2_drawThroughExit : Cond.code yX2_drawThroughExit cX2_drawThroughExit 4 none ∈ gLW := List.mem_filter.mpr ⟨List.mem_of_getElem? (i := 624) (by decide +kernel), by decide +kernel⟩
theorem q_ml_X8_103 : Cond.methodLink RX8 103 yX5_taskCount ∈ gLW := List.mem_filter.mpr ⟨List.mem_of_getElem? (i := 625) (by decide +kernel), by decide +kernel⟩
theorem q_ml_L_175 : Cond.methodLink RL 175 yX8_digest ∈ gLW := List.mem_filter.mpr ⟨List.mem_of_getElem? (i := 626) (by decide +kernel), by decide +kernel⟩
theorem q_im_X8_digest : Cond.instanceMethod yX8_digest ∈ gLW := List.mem_filter.mpr ⟨List.mem_of_getElem? (i := 627) (by decide +kernel), by decide +kernel⟩
theorem q_se_X8_digest : Cond.selects RX8 yX8_digest yX8_digest ∈ gLW := List.mem_filter.mpr ⟨List.mem_of_getElem? (i := 628) (by decide +kernel), by decide +kernel⟩
theorem q_co_X8_digest : Cond.code yX8_digest cX8_digest 4 (some (Jvm.ClassFile.FieldType.long)) ∈ gLW := List.mem_filter.mpr ⟨List.mem_of_getElem? (i := 629) (by decide +kernel), by decide +kernel⟩
theorem q_kl_X8_277 : Cond.constantLong RX8 277 (101029 : Int64) ∈ gLW := List.mem_filter.mpr ⟨List.mem_of_getElem? (i := 630) (by decide +kernel), by decide +kernel⟩
theorem q_kl_X8_279 : Cond.constantLong RX8 279 (31 : Int64) ∈ gLW := List.mem_filter.mpr ⟨List.mem_of_getElem? (i := 631) (by decide +kernel), by decide +kernel⟩
theorem q_ml_X8_95 : Cond.methodLink RX8 95 yX8_numberOfPlan ∈ gLW := List.mem_filter.mpr ⟨List.mem_of_getElem? (i := 632) (by decide +kernel), by decide +kernel⟩
theorem q_im_X8_numberOfPlan : Cond.instanceMethod yX8_numberOfPlan ∈ gLW := List.mem_filter.mpr ⟨List.mem_of_getElem? (i := 634) (by decide +kernel), by decide +kernel⟩
theorem q_co_X8_numberOfPlan : Cond.code yX8_numberOfPlan cX8_numberOfPlan 2 (some (Jvm.ClassFile.FieldType.int)) ∈ gLW := List.mem_filter.mpr ⟨List.mem_of_getElem? (i := 635) (by decide +kernel), by decide +kernel⟩
theorem q_ml_X8_281 : Cond.methodLink RX8 281 yX8_digestTasks ∈ gLW := List.mem_filter.mpr ⟨List.mem_of_getElem? (i := 636) (by decide +kernel), by decide +kernel⟩
theorem q_im_X8_digestTasks : Cond.instanceMethod yX8_digestTasks ∈ gLW := List.mem_filter.mpr ⟨List.mem_of_getElem? (i := 638) (by decide +kernel), by decide +kernel⟩
theorem q_co_X8_digestTasks : Cond.code yX8_digestTasks cX8_digestTasks 7 (some (Jvm.ClassFile.FieldType.long)) ∈ gLW := List.mem_filter.mpr ⟨List.mem_of_getElem? (i := 639) (by decide +kernel), by decide +kernel⟩
theorem q_ml_X8_154 : Cond.methodLink RX8 154 yX8_numberOfTask ∈ gLW := List.mem_filter.mpr ⟨List.mem_of_getElem? (i := 640) (by decide +kernel), by decide +kernel⟩
theorem q_im_X8_numberOfTask : Cond.instanceMethod yX8_numberOfTask ∈ gLW := List.mem_filter.mpr ⟨List.mem_of_getElem? (i := 642) (by decide +kernel), by decide +kernel⟩
theorem q_co_X8_numberOfTask : Cond.code yX8_numberOfTask cX8_numberOfTask 3 (some (Jvm.ClassFile.FieldType.int)) ∈ gLW := List.mem_filter.mpr ⟨List.mem_of_getElem? (i := 643) (by decide +kernel), by decide +kernel⟩
theorem q_ml_X8_326 : Cond.methodLink RX8 326 yX5_group ∈ gLW := List.mem_filter.mpr ⟨List.mem_of_getElem? (i := 644) (by decide +kernel), by decide +kernel⟩
theorem q_ml_X8_329 : Cond.methodLink RX8 329 yX5_length ∈ gLW := List.mem_filter.mpr ⟨List.mem_of_getElem? (i := 645) (by decide +kernel), by decide +kernel⟩
theorem q_ml_X8_331 : Cond.methodLink RX8 331 yX0_rowOf ∈ gLW := List.mem_filter.mpr ⟨List.mem_of_getElem? (i := 646) (by decide +kernel), by decide +kernel⟩
theorem q_im_X0_rowOf : Cond.instanceMethod yX0_rowOf ∈ gLW := List.mem_filter.mpr ⟨List.mem_of_getElem? (i := 647) (by decide +kernel), by decide +kernel⟩
theorem q_se_X0_rowOf : Cond.selects RX0 yX0_rowOf yX0_rowOf ∈ gLW := List.mem_filter.mpr ⟨List.mem_of_getElem? (i := 648) (by decide +kernel), by decide +kernel⟩
theorem q_co_X0_rowOf : Cond.code yX0_rowOf cX0_rowOf 2 (some (Jvm.ClassFile.FieldType.int)) ∈ gLW := List.mem_filter.mpr ⟨List.mem_of_getElem? (i := 649) (by decide +kernel), by decide +kernel⟩
theorem q_ml_X8_183 : Cond.methodLink RX8 183 yX8_partsOf ∈ gLW := List.mem_filter.mpr ⟨List.mem_of_getElem? (i := 650) (by decide +kernel), by decide +kernel⟩
theorem q_im_X8_partsOf : Cond.instanceMethod yX8_partsOf ∈ gLW := List.mem_filter.mpr ⟨List.mem_of_getElem? (i := 652) (by decide +kernel), by decide +kernel⟩
theorem q_co_X8_partsOf : Cond.code yX8_partsOf cX8_partsOf 3 (some (Jvm.ClassFile.FieldType.int)) ∈ gLW := List.mem_filter.mpr ⟨List.mem_of_getElem? (i := 653) (by decide +kernel), by decide +kernel⟩
theorem q_ml_X8_285 : Cond.methodLink RX8 285 yX8_digestBands ∈ gLW := List.mem_filter.mpr ⟨List.mem_of_getElem? (i := 654) (by decide +kernel), by decide +kernel⟩
theorem q_im_X8_digestBands : Cond.instanceMethod yX8_digestBands ∈ gLW := List.mem_filter.mpr ⟨List.mem_of_getElem? (i := 656) (by decide +kernel), by decide +kernel⟩
theorem q_co_X8_digestBands : Cond.code yX8_digestBands cX8_digestBands 7 (some (Jvm.ClassFile.FieldType.long)) ∈ gLW := List.mem_filter.mpr ⟨List.mem_of_getElem? (i := 657) (by decide +kernel), by decide +kernel⟩
theorem q_ml_X8_166 : Cond.methodLink RX8 166 yX0_content ∈ gLW := List.mem_filter.mpr ⟨List.mem_of_getElem? (i := 658) (by decide +kernel), by decide +kernel⟩
theorem q_im_X0_content : Cond.instanceMethod yX0_content ∈ gLW := List.mem_filter.mpr ⟨List.mem_of_getElem? (i := 659) (by decide +kernel), by decide +kernel⟩
theorem q_se_X0_content : Cond.selects RX0 yX0_content yX0_content ∈ gLW := List.mem_filter.mpr ⟨List.mem_of_getElem? (i := 660) (by decide +kernel), by decide +kernel⟩
theorem q_co_X0_content : Cond.code yX0_content cX0_content 3 (some (Jvm.ClassFile.FieldType.int)) ∈ gLW := List.mem_filter.mpr ⟨List.mem_of_getElem? (i := 661) (by decide +kernel), by decide +kernel⟩
theorem q_ml_X8_288 : Cond.methodLink RX8 288 yX8_digestSheets ∈ gLW := List.mem_filter.mpr ⟨List.mem_of_getElem? (i := 662) (by decide +kernel), by decide +kernel⟩
theorem q_im_X8_digestSheets : Cond.instanceMethod yX8_digestSheets ∈ gLW := List.mem_filter.mpr ⟨List.mem_of_getElem? (i := 664) (by decide +kernel), by decide +kernel⟩
theorem q_co_X8_digestSheets : Cond.code yX8_digestSheets cX8_digestSheets 7 (some (Jvm.ClassFile.FieldType.long)) ∈ gLW := List.mem_filter.mpr ⟨List.mem_of_getElem? (i := 665) (by decide +kernel), by decide +kernel⟩
theorem q_ml_X8_175 : Cond.methodLink RX8 175 yX8_numberOfSheet ∈ gLW := List.mem_filter.mpr ⟨List.mem_of_getElem? (i := 666) (by decide +kernel), by decide +kernel⟩
theorem q_im_X8_numberOfSheet : Cond.instanceMethod yX8_numberOfSheet ∈ gLW := List.mem_filter.mpr ⟨List.mem_of_getElem? (i := 668) (by decide +kernel), by decide +kernel⟩
theorem q_co_X8_numberOfSheet : Cond.code yX8_numberOfSheet cX8_numberOfSheet 3 (some (Jvm.ClassFile.FieldType.int)) ∈ gLW := List.mem_filter.mpr ⟨List.mem_of_getElem? (i := 669) (by decide +kernel), by decide +kernel⟩
theorem q_ml_X8_209 : Cond.methodLink RX8 209 yX6_bandOf ∈ gLW := List.mem_filter.mpr ⟨List.mem_of_getElem? (i := 670) (by decide +kernel), by decide +kernel⟩
theorem q_im_X6_bandOf : Cond.instanceMethod yX6_bandOf ∈ gLW := List.mem_filter.mpr ⟨List.mem_of_getElem? (i := 671) (by decide +kernel), by decide +kernel⟩
theorem q_se_X6_bandOf : Cond.selects RX6 yX6_bandOf yX6_bandOf ∈ gLW := List.mem_filter.mpr ⟨List.mem_of_getElem? (i := 672) (by decide +kernel), by decide +kernel⟩
theorem q_co_X6_bandOf : Cond.code yX6_bandOf cX6_bandOf 2 (some (Jvm.ClassFile.FieldType.int)) ∈ gLW := List.mem_filter.mpr ⟨List.mem_of_getElem? (i := 673) (by decide +kernel), by decide +kernel⟩
theorem q_ml_X8_212 : Cond.methodLink RX8 212 yX6_stripOf ∈ gLW := List.mem_filter.mpr ⟨List.mem_of_getElem? (i := 674) (by decide +kernel), by decide +kernel⟩
theorem q_im_X6_stripOf : Cond.instanceMethod yX6_stripOf ∈ gLW := List.mem_filter.mpr ⟨List.mem_of_getElem? (i := 675) (by decide +kernel), by decide +kernel⟩
theorem q_se_X6_stripOf : Cond.selects RX6 yX6_stripOf yX6_stripOf ∈ gLW := List.mem_filter.mpr ⟨List.mem_of_getElem? (i := 676) (by decide +kernel), by decide +kernel⟩
theorem q_co_X6_stripOf : Cond.code yX6_stripOf cX6_stripOf 2 (some (Jvm.ClassFile.FieldType.int)) ∈ gLW := List.mem_filter.mpr ⟨List.mem_of_getElem? (i := 677) (by decide +kernel), by decide +kernel⟩
theorem q_ml_X8_334 : Cond.methodLink RX8 334 yX6_partsOn ∈ gLW := List.mem_filter.mpr ⟨List.mem_of_getElem? (i := 678) (by decide +kernel), by decide +kernel⟩
theorem q_im_X6_partsOn : Cond.instanceMethod yX6_partsOn ∈ gLW := List.mem_filter.mpr ⟨List.mem_of_getElem? (i := 679) (by decide +kernel), by decide +kernel⟩
theorem q_se_X6_partsOn : Cond.selects RX6 yX6_partsOn yX6_partsOn ∈ gLW := List.mem_filter.mpr ⟨List.mem_of_getElem? (i := 680) (by decide +kernel), by decide +kernel⟩
theorem q_co_X6_partsOn : Cond.code yX6_partsOn cX6_partsOn 2 (some (Jvm.ClassFile.FieldType.int)) ∈ gLW := List.mem_filter.mpr ⟨List.mem_of_getElem? (i := 681) (by decide +kernel), by decide +kernel⟩
theorem q_ml_X6_37 : Cond.methodLink RX6 37 yX6_bandOf ∈ gLW := List.mem_filter.mpr ⟨List.mem_of_getElem? (i := 682) (by decide +kernel), by decide +kernel⟩
theorem q_ml_X6_40 : Cond.methodLink RX6 40 yX6_stripOf ∈ gLW := List.mem_filter.mpr ⟨List.mem_of_getElem? (i := 683) (by decide +kernel), by decide +kernel⟩
theorem q_ml_X8_337 : Cond.methodLink RX8 337 yX2_standingOn ∈ gLW := List.mem_filter.mpr ⟨List.mem_of_getElem? (i := 684) (by decide +kernel), by decide +kernel⟩
theorem q_im_X2_standingOn : Cond.instanceMethod yX2_standingOn ∈ gLW := List.mem_filter.mpr ⟨List.mem_of_getElem? (i := 685) (by decide +kernel), by decide +kernel⟩
theorem q_se_X2_standingOn : Cond.selects RX2 yX2_standingOn yX2_standingOn ∈ gLW := List.mem_filter.mpr ⟨List.mem_of_getElem? (i := 686) (by decide +kernel), by decide +kernel⟩
theorem q_co_X2_standingOn : Cond.code yX2_standingOn cX2_standingOn 2 (some (Jvm.ClassFile.FieldType.int)) ∈ gLW := List.mem_filter.mpr ⟨List.mem_of_getElem? (i := 687) (by decide +kernel), by decide +kernel⟩
theorem q_ml_X2_39 : Cond.methodLink RX2 39 yX4_at ∈ gLW := List.mem_filter.mpr ⟨List.mem_of_getElem? (i := 688) (by decide +kernel), by decide +kernel⟩
theorem q_ml_X8_340 : Cond.methodLink RX8 340 yX2_drawnOn ∈ gLW := List.mem_filter.mpr ⟨List.mem_of_getElem? (i := 689) (by decide +kernel), by decide +kernel⟩
theorem q_im_X2_drawnOn : Cond.instanceMethod yX2_drawnOn ∈ gLW := List.mem_filter.mpr ⟨List.mem_of_getElem? (i := 690) (by decide +kernel), by decide +kernel⟩
theorem q_se_X2_drawnOn : Cond.selects RX2 yX2_drawnOn yX2_drawnOn ∈ gLW := List.mem_filter.mpr ⟨List.mem_of_getElem? (i := 691) (by decide +kernel), by decide +kernel⟩
theorem q_co_X2_drawnOn : Cond.code yX2_drawnOn cX2_drawnOn 2 (some (Jvm.ClassFile.FieldType.int)) ∈ gLW := List.mem_filter.mpr ⟨List.mem_of_getElem? (i := 692) (by decide +kernel), by decide +kernel⟩
theorem q_ml_X8_291 : Cond.methodLink RX8 291 yX8_digestArrows ∈ gLW := List.mem_filter.mpr ⟨List.mem_of_getElem? (i := 693) (by decide +kernel), by decide +kernel⟩
theorem q_im_X8_digestArrows : Cond.instanceMethod yX8_digestArrows ∈ gLW := List.mem_filter.mpr ⟨List.mem_of_getElem? (i := 695) (by decide +kernel), by decide +kernel⟩
theorem q_co_X8_digestArrows : Cond.code yX8_digestArrows cX8_digestArrows 7 (some (Jvm.ClassFile.FieldType.long)) ∈ gLW := List.mem_filter.mpr ⟨List.mem_of_getElem? (i := 696) (by decide +kernel), by decide +kernel⟩
theorem q_ml_X8_198 : Cond.methodLink RX8 198 yX8_numberOfArrow ∈ gLW := List.mem_filter.mpr ⟨List.mem_of_getElem? (i := 697) (by decide +kernel), by decide +kernel⟩
theorem q_im_X8_numberOfArrow : Cond.instanceMethod yX8_numberOfArrow ∈ gLW := List.mem_filter.mpr ⟨List.mem_of_getElem? (i := 699) (by decide +kernel), by decide +kernel⟩
theorem q_co_X8_numberOfArrow : Cond.code yX8_numberOfArrow cX8_numberOfArrow 3 (some (Jvm.ClassFile.FieldType.int)) ∈ gLW := List.mem_filter.mpr ⟨List.mem_of_getElem? (i := 700) (by decide +kernel), by decide +kernel⟩
theorem q_ml_X8_346 : Cond.methodLink RX8 346 yX2_leavesOn ∈ gLW := List.mem_filter.mpr ⟨List.mem_of_getElem? (i := 701) (by decide +kernel), by decide +kernel⟩
theorem q_im_X2_leavesOn : Cond.instanceMethod yX2_leavesOn ∈ gLW := List.mem_filter.mpr ⟨List.mem_of_getElem? (i := 702) (by decide +kernel), by decide +kernel⟩
theorem q_se_X2_leavesOn : Cond.selects RX2 yX2_leavesOn yX2_leavesOn ∈ gLW := List.mem_filter.mpr ⟨List.mem_of_getElem? (i := 703) (by decide +kernel), by decide +kernel⟩
theorem q_co_X2_leavesOn : Cond.code yX2_leavesOn cX2_leavesOn 2 (some (Jvm.ClassFile.FieldType.int)) ∈ gLW := List.mem_filter.mpr ⟨List.mem_of_getElem? (i := 704) (by decide +kernel), by decide +kernel⟩
theorem q_ml_X8_349 : Cond.methodLink RX8 349 yX2_arrivesOn ∈ gLW := List.mem_filter.mpr ⟨List.mem_of_getElem? (i := 705) (by decide +kernel), by decide +kernel⟩
theorem q_im_X2_arrivesOn : Cond.instanceMethod yX2_arrivesOn ∈ gLW := List.mem_filter.mpr ⟨List.mem_of_getElem? (i := 706) (by decide +kernel), by decide +kernel⟩
theorem q_se_X2_arrivesOn : Cond.selects RX2 yX2_arrivesOn yX2_arrivesOn ∈ gLW := List.mem_filter.mpr ⟨List.mem_of_getElem? (i := 707) (by decide +kernel), by decide +kernel⟩
theorem q_co_X2_arrivesOn : Cond.code yX2_arrivesOn cX2_arrivesOn 2 (some (Jvm.ClassFile.FieldType.int)) ∈ gLW := List.mem_filter.mpr ⟨List.mem_of_getElem? (i := 708) (by decide +kernel), by decide +kernel⟩
theorem q_ml_X8_352 : Cond.methodLink RX8 352 yX2_exitOf ∈ gLW := List.mem_filter.mpr ⟨List.mem_of_getElem? (i := 709) (by decide +kernel), by decide +kernel⟩
theorem q_im_X2_exitOf : Cond.instanceMethod yX2_exitOf ∈ gLW := List.mem_filter.mpr ⟨List.mem_of_getElem? (i := 710) (by decide +kernel), by decide +kernel⟩
theorem q_se_X2_exitOf : Cond.selects RX2 yX2_exitOf yX2_exitOf ∈ gLW := List.mem_filter.mpr ⟨List.mem_of_getElem? (i := 711) (by decide +kernel), by decide +kernel⟩
theorem q_co_X2_exitOf : Cond.code yX2_exitOf cX2_exitOf 2 (some (Jvm.ClassFile.FieldType.int)) ∈ gLW := List.mem_filter.mpr ⟨List.mem_of_getElem? (i := 712) (by decide +kernel), by decide +kernel⟩
theorem q_ml_X8_355 : Cond.methodLink RX8 355 yX5_isLate ∈ gLW := List.mem_filter.mpr ⟨List.mem_of_getElem? (i := 713) (by decide +kernel), by decide +kernel⟩
theorem q_ml_X8_271 : Cond.methodLink RX8 271 yX3_count ∈ gLW := List.mem_filter.mpr ⟨List.mem_of_getElem? (i := 714) (by decide +kernel), by decide +kernel⟩
theorem q_im_X3_count : Cond.instanceMethod yX3_count ∈ gLW := List.mem_filter.mpr ⟨List.mem_of_getElem? (i := 715) (by decide +kernel), by decide +kernel⟩
theorem q_se_X3_count : Cond.selects RX3 yX3_count yX3_count ∈ gLW := List.mem_filter.mpr ⟨List.mem_of_getElem? (i := 716) (by decide +kernel), by decide +kernel⟩
theorem q_co_X3_count : Cond.code yX3_count cX3_count 1 (some (Jvm.ClassFile.FieldType.int)) ∈ gLW := List.mem_filter.mpr ⟨List.mem_of_getElem? (i := 717) (by decide +kernel), by decide +kernel⟩
theorem q_ml_L_80 : Cond.methodLink RL 80 yL_set ∈ gLW := List.mem_filter.mpr ⟨List.mem_of_getElem? (i := 718) (by decide +kernel), by decide +kernel⟩
theorem q_st_L_set : Cond.static yL_set ∈ gLW := List.mem_filter.mpr ⟨List.mem_of_getElem? (i := 719) (by decide +kernel), by decide +kernel⟩
theorem q_cw_L_set : Cond.codeWith yL_set cL_set 5 (some (Jvm.ClassFile.FieldType.int)) [((0 : Nat), (10 : Nat), (13 : Nat), (13 : Nat))] ∈ gLW := List.mem_filter.mpr ⟨List.mem_of_getElem? (i := 720) (by decide +kernel), by decide +kernel⟩
theorem q_cl_L_13 : Cond.classLink RL 13 "java/lang/IllegalArgumentException" ∈ gLW := List.mem_filter.mpr ⟨List.mem_of_getElem? (i := 721) (by decide +kernel), by decide +kernel⟩
theorem q_ml_L_7 : Cond.methodLink RL 7 yX8_set ∈ gLW := List.mem_filter.mpr ⟨List.mem_of_getElem? (i := 722) (by decide +kernel), by decide +kernel⟩
theorem q_im_X8_set : Cond.instanceMethod yX8_set ∈ gLW := List.mem_filter.mpr ⟨List.mem_of_getElem? (i := 723) (by decide +kernel), by decide +kernel⟩
theorem q_se_X8_set : Cond.selects RX8 yX8_set yX8_set ∈ gLW := List.mem_filter.mpr ⟨List.mem_of_getElem? (i := 724) (by decide +kernel), by decide +kernel⟩
theorem q_co_X8_set : Cond.code yX8_set cX8_set 4 (some (Jvm.ClassFile.FieldType.int)) ∈ gLW := List.mem_filter.mpr ⟨List.mem_of_getElem? (i := 725) (by decide +kernel), by decide +kernel⟩
theorem q_ml_X8_67 : Cond.methodLink RX8 67 yX8_isSetting ∈ gLW := List.mem_filter.mpr ⟨List.mem_of_getElem? (i := 726) (by decide +kernel), by decide +kernel⟩
theorem q_st_X8_isSetting : Cond.static yX8_isSetting ∈ gLW := List.mem_filter.mpr ⟨List.mem_of_getElem? (i := 727) (by decide +kernel), by decide +kernel⟩
theorem q_co_X8_isSetting : Cond.code yX8_isSetting cX8_isSetting 2 (some (Jvm.ClassFile.FieldType.boolean)) ∈ gLW := List.mem_filter.mpr ⟨List.mem_of_getElem? (i := 728) (by decide +kernel), by decide +kernel⟩
theorem q_fl_X8_315 : Cond.fieldLink RX8 315 "TaskSheets" "SMALLEST" "[I" ∈ gLW := List.mem_filter.mpr ⟨List.mem_of_getElem? (i := 729) (by decide +kernel), by decide +kernel⟩
theorem q_fl_X8_319 : Cond.fieldLink RX8 319 "TaskSheets" "GREATEST" "[I" ∈ gLW := List.mem_filter.mpr ⟨List.mem_of_getElem? (i := 731) (by decide +kernel), by decide +kernel⟩
theorem q_cl_X8_71 : Cond.classLink RX8 71 "java/lang/IllegalArgumentException" ∈ gLW := List.mem_filter.mpr ⟨List.mem_of_getElem? (i := 733) (by decide +kernel), by decide +kernel⟩
theorem q_ia_java_lang_IllegalArgumentException : Cond.instantiable "java/lang/IllegalArgumentException" 6 ∈ gLW := List.mem_filter.mpr ⟨List.mem_of_getElem? (i := 734) (by decide +kernel), by decide +kernel⟩
theorem q_se_java_lang_Throwable_fillInStackTrace__I_Ljava_lang_Throwable_ : Cond.selects "java/lang/IllegalArgumentException" ⟨"java/lang/Throwable", "fillInStackTrace", "(I)Ljava/lang/Throwable;"⟩ ⟨"java/lang/Throwable", "fillInStackTrace", "(I)Ljava/lang/Throwable;"⟩ ∈ gLW := List.mem_filter.mpr ⟨List.mem_of_getElem? (i := 742) (by decide +kernel), by decide +kernel⟩
theorem q_se_java_lang_Throwable_fillInStackTrace__Ljava_lang_Throwable_ : Cond.selects "java/lang/IllegalArgumentException" ⟨"java/lang/Throwable", "fillInStackTrace", "()Ljava/lang/Throwable;"⟩ ⟨"java/lang/Throwable", "fillInStackTrace", "()Ljava/lang/Throwable;"⟩ ∈ gLW := List.mem_filter.mpr ⟨List.mem_of_getElem? (i := 743) (by decide +kernel), by decide +kernel⟩
theorem q_fl_java_lang_Throwable_198 : Cond.fieldLink "java/lang/Throwable" 198 "java/lang/Throwable" "backtrace" "Ljava/lang/Object;" ∈ gLW := List.mem_filter.mpr ⟨List.mem_of_getElem? (i := 754) (by decide +kernel), by decide +kernel⟩
theorem q_im_java_lang_Throwable__init___V : Cond.instanceMethod ⟨"java/lang/Throwable", "<init>", "()V"⟩ ∈ gLW := List.mem_filter.mpr ⟨List.mem_of_getElem? (i := 756) (by decide +kernel), by decide +kernel⟩
theorem q_co_java_lang_Throwable__init___V : Cond.code ⟨"java/lang/Throwable", "<init>", "()V"⟩ prog_19_method_1_code 1 none ∈ gLW := List.mem_filter.mpr ⟨List.mem_of_getElem? (i := 757) (by decide +kernel), by decide +kernel⟩
theorem q_ml_java_lang_Throwable_1 : Cond.methodLink "java/lang/Throwable" 1 objectInit ∈ gLW := List.mem_filter.mpr ⟨List.mem_of_getElem? (i := 758) (by decide +kernel), by decide +kernel⟩
theorem q_fl_java_lang_Throwable_13 : Cond.fieldLink "java/lang/Throwable" 13 "java/lang/Throwable" "UNASSIGNED_STACK" "[Ljava/lang/StackTraceElement;" ∈ gLW := List.mem_filter.mpr ⟨List.mem_of_getElem? (i := 759) (by decide +kernel), by decide +kernel⟩
theorem q_fl_java_lang_Throwable_20 : Cond.fieldLink "java/lang/Throwable" 20 "java/lang/Throwable" "SUPPRESSED_SENTINEL" "Ljava/util/List;" ∈ gLW := List.mem_filter.mpr ⟨List.mem_of_getElem? (i := 761) (by decide +kernel), by decide +kernel⟩
theorem q_ml_java_lang_Throwable_27 : Cond.methodLink "java/lang/Throwable" 27 ⟨"java/lang/Throwable", "fillInStackTrace", "()Ljava/lang/Throwable;"⟩ ∈ gLW := List.mem_filter.mpr ⟨List.mem_of_getElem? (i := 763) (by decide +kernel), by decide +kernel⟩
theorem q_im_java_lang_Throwable_fillInStackTrace__Ljava_lang_Throwable_ : Cond.instanceMethod ⟨"java/lang/Throwable", "fillInStackTrace", "()Ljava/lang/Throwable;"⟩ ∈ gLW := List.mem_filter.mpr ⟨List.mem_of_getElem? (i := 764) (by decide +kernel), by decide +kernel⟩
theorem q_ml_java_lang_Throwable_202 : Cond.methodLink "java/lang/Throwable" 202 ⟨"java/lang/Throwable", "fillInStackTrace", "(I)Ljava/lang/Throwable;"⟩ ∈ gLW := List.mem_filter.mpr ⟨List.mem_of_getElem? (i := 769) (by decide +kernel), by decide +kernel⟩
theorem q_im_java_lang_Throwable_fillInStackTrace__I_Ljava_lang_Throwable_ : Cond.instanceMethod ⟨"java/lang/Throwable", "fillInStackTrace", "(I)Ljava/lang/Throwable;"⟩ ∈ gLW := List.mem_filter.mpr ⟨List.mem_of_getElem? (i := 771) (by decide +kernel), by decide +kernel⟩
theorem q_ia_java_lang_Throwable : Cond.instantiable "java/lang/Throwable" 6 ∈ gLW := List.mem_filter.mpr ⟨List.mem_of_getElem? (i := 772) (by decide +kernel), by decide +kernel⟩
theorem q_ml_X8_75 : Cond.methodLink RX8 75 ⟨"java/lang/IllegalArgumentException", "<init>", "(Ljava/lang/String;)V"⟩ ∈ gLW := List.mem_filter.mpr ⟨List.mem_of_getElem? (i := 775) (by decide +kernel), by decide +kernel⟩
theorem q_im_java_lang_IllegalArgumentException__init___Ljava_lang_String_V : Cond.instanceMethod ⟨"java/lang/IllegalArgumentException", "<init>", "(Ljava/lang/String;)V"⟩ ∈ gLW := List.mem_filter.mpr ⟨List.mem_of_getElem? (i := 776) (by decide +kernel), by decide +kernel⟩
theorem q_co_java_lang_IllegalArgumentException__init___Ljava_lang_String_V : Cond.code ⟨"java/lang/IllegalArgumentException", "<init>", "(Ljava/lang/String;)V"⟩ prog_13_method_2_code 2 none ∈ gLW := List.mem_filter.mpr ⟨List.mem_of_getElem? (i := 777) (by decide +kernel), by decide +kernel⟩
theorem q_ml_java_lang_IllegalArgumentException_7 : Cond.methodLink "java/lang/IllegalArgumentException" 7 ⟨"java/lang/RuntimeException", "<init>", "(Ljava/lang/String;)V"⟩ ∈ gLW := List.mem_filter.mpr ⟨List.mem_of_getElem? (i := 778) (by decide +kernel), by decide +kernel⟩
theorem q_im_java_lang_RuntimeException__init___Ljava_lang_String_V : Cond.instanceMethod ⟨"java/lang/RuntimeException", "<init>", "(Ljava/lang/String;)V"⟩ ∈ gLW := List.mem_filter.mpr ⟨List.mem_of_getElem? (i := 779) (by decide +kernel), by decide +kernel⟩
theorem q_co_java_lang_RuntimeException__init___Ljava_lang_String_V : Cond.code ⟨"java/lang/RuntimeException", "<init>", "(Ljava/lang/String;)V"⟩ prog_17_method_2_code 2 none ∈ gLW := List.mem_filter.mpr ⟨List.mem_of_getElem? (i := 780) (by decide +kernel), by decide +kernel⟩
theorem q_ml_java_lang_RuntimeException_7 : Cond.methodLink "java/lang/RuntimeException" 7 ⟨"java/lang/Exception", "<init>", "(Ljava/lang/String;)V"⟩ ∈ gLW := List.mem_filter.mpr ⟨List.mem_of_getElem? (i := 781) (by decide +kernel), by decide +kernel⟩
theorem q_im_java_lang_Exception__init___Ljava_lang_String_V : Cond.instanceMethod ⟨"java/lang/Exception", "<init>", "(Ljava/lang/String;)V"⟩ ∈ gLW := List.mem_filter.mpr ⟨List.mem_of_getElem? (i := 782) (by decide +kernel), by decide +kernel⟩
theorem q_co_java_lang_Exception__init___Ljava_lang_String_V : Cond.code ⟨"java/lang/Exception", "<init>", "(Ljava/lang/String;)V"⟩ prog_12_method_2_code 2 none ∈ gLW := List.mem_filter.mpr ⟨List.mem_of_getElem? (i := 783) (by decide +kernel), by decide +kernel⟩
theorem q_ml_java_lang_Exception_7 : Cond.methodLink "java/lang/Exception" 7 ⟨"java/lang/Throwable", "<init>", "(Ljava/lang/String;)V"⟩ ∈ gLW := List.mem_filter.mpr ⟨List.mem_of_getElem? (i := 784) (by decide +kernel), by decide +kernel⟩
theorem q_im_java_lang_Throwable__init___Ljava_lang_String_V : Cond.instanceMethod ⟨"java/lang/Throwable", "<init>", "(Ljava/lang/String;)V"⟩ ∈ gLW := List.mem_filter.mpr ⟨List.mem_of_getElem? (i := 785) (by decide +kernel), by decide +kernel⟩
theorem q_co_java_lang_Throwable__init___Ljava_lang_String_V : Cond.code ⟨"java/lang/Throwable", "<init>", "(Ljava/lang/String;)V"⟩ prog_19_method_2_code 2 none ∈ gLW := List.mem_filter.mpr ⟨List.mem_of_getElem? (i := 786) (by decide +kernel), by decide +kernel⟩
theorem q_fl_java_lang_Throwable_31 : Cond.fieldLink "java/lang/Throwable" 31 "java/lang/Throwable" "detailMessage" "Ljava/lang/String;" ∈ gLW := List.mem_filter.mpr ⟨List.mem_of_getElem? (i := 788) (by decide +kernel), by decide +kernel⟩
theorem q_fl_java_lang_Throwable_7 : Cond.fieldLink "java/lang/Throwable" 7 "java/lang/Throwable" "cause" "Ljava/lang/Throwable;" ∈ gLW := List.mem_filter.mpr ⟨List.mem_of_getElem? (i := 789) (by decide +kernel), by decide +kernel⟩
theorem q_fl_java_lang_Throwable_17 : Cond.fieldLink "java/lang/Throwable" 17 "java/lang/Throwable" "stackTrace" "[Ljava/lang/StackTraceElement;" ∈ gLW := List.mem_filter.mpr ⟨List.mem_of_getElem? (i := 790) (by decide +kernel), by decide +kernel⟩
theorem q_fl_java_lang_Throwable_24 : Cond.fieldLink "java/lang/Throwable" 24 "java/lang/Throwable" "suppressedExceptions" "Ljava/util/List;" ∈ gLW := List.mem_filter.mpr ⟨List.mem_of_getElem? (i := 791) (by decide +kernel), by decide +kernel⟩
theorem q_ac_byte : Cond.arrayClass Jvm.ClassFile.FieldType.byte ∈ gLW := List.mem_filter.mpr ⟨List.mem_of_getElem? (i := 800) (by decide +kernel), by decide +kernel⟩
theorem q_ml_X8_86 : Cond.methodLink RX8 86 yX5_putSetting ∈ gLW := List.mem_filter.mpr ⟨List.mem_of_getElem? (i := 801) (by decide +kernel), by decide +kernel⟩
theorem q_im_X5_putSetting : Cond.instanceMethod yX5_putSetting ∈ gLW := List.mem_filter.mpr ⟨List.mem_of_getElem? (i := 802) (by decide +kernel), by decide +kernel⟩
theorem q_se_X5_putSetting : Cond.selects RX5 yX5_putSetting yX5_putSetting ∈ gLW := List.mem_filter.mpr ⟨List.mem_of_getElem? (i := 803) (by decide +kernel), by decide +kernel⟩
theorem q_co_X5_putSetting : Cond.code yX5_putSetting cX5_putSetting 3 none ∈ gLW := List.mem_filter.mpr ⟨List.mem_of_getElem? (i := 804) (by decide +kernel), by decide +kernel⟩
theorem q_ml_L_89 : Cond.methodLink RL 89 yL_value ∈ gLW := List.mem_filter.mpr ⟨List.mem_of_getElem? (i := 805) (by decide +kernel), by decide +kernel⟩
theorem q_st_L_value : Cond.static yL_value ∈ gLW := List.mem_filter.mpr ⟨List.mem_of_getElem? (i := 806) (by decide +kernel), by decide +kernel⟩
theorem q_cw_L_value : Cond.codeWith yL_value cL_value 4 (some (Jvm.ClassFile.FieldType.int)) [((0 : Nat), (9 : Nat), (12 : Nat), (13 : Nat))] ∈ gLW := List.mem_filter.mpr ⟨List.mem_of_getElem? (i := 807) (by decide +kernel), by decide +kernel⟩
theorem q_ml_L_15 : Cond.methodLink RL 15 yX8_value ∈ gLW := List.mem_filter.mpr ⟨List.mem_of_getElem? (i := 808) (by decide +kernel), by decide +kernel⟩
theorem q_im_X8_value : Cond.instanceMethod yX8_value ∈ gLW := List.mem_filter.mpr ⟨List.mem_of_getElem? (i := 809) (by decide +kernel), by decide +kernel⟩
theorem q_se_X8_value : Cond.selects RX8 yX8_value yX8_value ∈ gLW := List.mem_filter.mpr ⟨List.mem_of_getElem? (i := 810) (by decide +kernel), by decide +kernel⟩
theorem q_co_X8_value : Cond.code yX8_value cX8_value 2 (some (Jvm.ClassFile.FieldType.int)) ∈ gLW := List.mem_filter.mpr ⟨List.mem_of_getElem? (i := 811) (by decide +kernel), by decide +kernel⟩
theorem q_ml_L_93 : Cond.methodLink RL 93 yL_addTask ∈ gLW := List.mem_filter.mpr ⟨List.mem_of_getElem? (i := 813) (by decide +kernel), by decide +kernel⟩
theorem q_st_L_addTask : Cond.static yL_addTask ∈ gLW := List.mem_filter.mpr ⟨List.mem_of_getElem? (i := 814) (by decide +kernel), by decide +kernel⟩
theorem q_cw_L_addTask : Cond.codeWith yL_addTask cL_addTask 6 (some (Jvm.ClassFile.FieldType.int)) [((0 : Nat), (12 : Nat), (15 : Nat), (13 : Nat)), ((0 : Nat), (12 : Nat), (19 : Nat), (23 : Nat))] ∈ gLW := List.mem_filter.mpr ⟨List.mem_of_getElem? (i := 815) (by decide +kernel), by decide +kernel⟩
theorem q_cl_L_23 : Cond.classLink RL 23 "java/lang/IllegalStateException" ∈ gLW := List.mem_filter.mpr ⟨List.mem_of_getElem? (i := 816) (by decide +kernel), by decide +kernel⟩
theorem q_ml_L_19 : Cond.methodLink RL 19 yX8_addTask ∈ gLW := List.mem_filter.mpr ⟨List.mem_of_getElem? (i := 817) (by decide +kernel), by decide +kernel⟩
theorem q_im_X8_addTask : Cond.instanceMethod yX8_addTask ∈ gLW := List.mem_filter.mpr ⟨List.mem_of_getElem? (i := 818) (by decide +kernel), by decide +kernel⟩
theorem q_se_X8_addTask : Cond.selects RX8 yX8_addTask yX8_addTask ∈ gLW := List.mem_filter.mpr ⟨List.mem_of_getElem? (i := 819) (by decide +kernel), by decide +kernel⟩
theorem q_co_X8_addTask : Cond.code yX8_addTask cX8_addTask 5 (some (Jvm.ClassFile.FieldType.int)) ∈ gLW := List.mem_filter.mpr ⟨List.mem_of_getElem? (i := 820) (by decide +kernel), by decide +kernel⟩
theorem q_ml_X8_98 : Cond.methodLink RX8 98 yX8_isBar ∈ gLW := List.mem_filter.mpr ⟨List.mem_of_getElem? (i := 821) (by decide +kernel), by decide +kernel⟩
theorem q_st_X8_isBar : Cond.static yX8_isBar ∈ gLW := List.mem_filter.mpr ⟨List.mem_of_getElem? (i := 822) (by decide +kernel), by decide +kernel⟩
theorem q_co_X8_isBar : Cond.code yX8_isBar cX8_isBar 2 (some (Jvm.ClassFile.FieldType.boolean)) ∈ gLW := List.mem_filter.mpr ⟨List.mem_of_getElem? (i := 823) (by decide +kernel), by decide +kernel⟩
theorem q_cl_X8_107 : Cond.classLink RX8 107 "java/lang/IllegalStateException" ∈ gLW := List.mem_filter.mpr ⟨List.mem_of_getElem? (i := 825) (by decide +kernel), by decide +kernel⟩
theorem q_ia_java_lang_IllegalStateException : Cond.instantiable "java/lang/IllegalStateException" 6 ∈ gLW := List.mem_filter.mpr ⟨List.mem_of_getElem? (i := 826) (by decide +kernel), by decide +kernel⟩
theorem q_ml_X8_111 : Cond.methodLink RX8 111 ⟨"java/lang/IllegalStateException", "<init>", "(Ljava/lang/String;)V"⟩ ∈ gLW := List.mem_filter.mpr ⟨List.mem_of_getElem? (i := 835) (by decide +kernel), by decide +kernel⟩
theorem q_im_java_lang_IllegalStateException__init___Ljava_lang_String_V : Cond.instanceMethod ⟨"java/lang/IllegalStateException", "<init>", "(Ljava/lang/String;)V"⟩ ∈ gLW := List.mem_filter.mpr ⟨List.mem_of_getElem? (i := 836) (by decide +kernel), by decide +kernel⟩
theorem q_co_java_lang_IllegalStateException__init___Ljava_lang_String_V : Cond.code ⟨"java/lang/IllegalStateException", "<init>", "(Ljava/lang/String;)V"⟩ prog_14_method_2_code 2 none ∈ gLW := List.mem_filter.mpr ⟨List.mem_of_getElem? (i := 837) (by decide +kernel), by decide +kernel⟩
theorem q_ml_java_lang_IllegalStateException_7 : Cond.methodLink "java/lang/IllegalStateException" 7 ⟨"java/lang/RuntimeException", "<init>", "(Ljava/lang/String;)V"⟩ ∈ gLW := List.mem_filter.mpr ⟨List.mem_of_getElem? (i := 838) (by decide +kernel), by decide +kernel⟩
theorem q_ml_X8_112 : Cond.methodLink RX8 112 yX5_tellTask ∈ gLW := List.mem_filter.mpr ⟨List.mem_of_getElem? (i := 841) (by decide +kernel), by decide +kernel⟩
theorem q_ml_L_97 : Cond.methodLink RL 97 yL_move ∈ gLW := List.mem_filter.mpr ⟨List.mem_of_getElem? (i := 842) (by decide +kernel), by decide +kernel⟩
theorem q_st_L_move : Cond.static yL_move ∈ gLW := List.mem_filter.mpr ⟨List.mem_of_getElem? (i := 843) (by decide +kernel), by decide +kernel⟩
theorem q_cw_L_move : Cond.codeWith yL_move cL_move 6 (some (Jvm.ClassFile.FieldType.int)) [((0 : Nat), (12 : Nat), (15 : Nat), (28 : Nat)), ((0 : Nat), (12 : Nat), (19 : Nat), (13 : Nat))] ∈ gLW := List.mem_filter.mpr ⟨List.mem_of_getElem? (i := 844) (by decide +kernel), by decide +kernel⟩
theorem q_cl_L_28 : Cond.classLink RL 28 "java/lang/IndexOutOfBoundsException" ∈ gLW := List.mem_filter.mpr ⟨List.mem_of_getElem? (i := 845) (by decide +kernel), by decide +kernel⟩
theorem q_ml_L_25 : Cond.methodLink RL 25 yX8_move ∈ gLW := List.mem_filter.mpr ⟨List.mem_of_getElem? (i := 846) (by decide +kernel), by decide +kernel⟩
theorem q_im_X8_move : Cond.instanceMethod yX8_move ∈ gLW := List.mem_filter.mpr ⟨List.mem_of_getElem? (i := 847) (by decide +kernel), by decide +kernel⟩
theorem q_se_X8_move : Cond.selects RX8 yX8_move yX8_move ∈ gLW := List.mem_filter.mpr ⟨List.mem_of_getElem? (i := 848) (by decide +kernel), by decide +kernel⟩
theorem q_co_X8_move : Cond.code yX8_move cX8_move 5 (some (Jvm.ClassFile.FieldType.int)) ∈ gLW := List.mem_filter.mpr ⟨List.mem_of_getElem? (i := 849) (by decide +kernel), by decide +kernel⟩
theorem q_ml_X8_116 : Cond.methodLink RX8 116 yX8_requireTask ∈ gLW := List.mem_filter.mpr ⟨List.mem_of_getElem? (i := 850) (by decide +kernel), by decide +kernel⟩
theorem q_im_X8_requireTask : Cond.instanceMethod yX8_requireTask ∈ gLW := List.mem_filter.mpr ⟨List.mem_of_getElem? (i := 852) (by decide +kernel), by decide +kernel⟩
theorem q_co_X8_requireTask : Cond.code yX8_requireTask cX8_requireTask 2 none ∈ gLW := List.mem_filter.mpr ⟨List.mem_of_getElem? (i := 853) (by decide +kernel), by decide +kernel⟩
theorem q_ml_X8_298 : Cond.methodLink RX8 298 yX5_hasTask ∈ gLW := List.mem_filter.mpr ⟨List.mem_of_getElem? (i := 854) (by decide +kernel), by decide +kernel⟩
theorem q_im_X5_hasTask : Cond.instanceMethod yX5_hasTask ∈ gLW := List.mem_filter.mpr ⟨List.mem_of_getElem? (i := 855) (by decide +kernel), by decide +kernel⟩
theorem q_se_X5_hasTask : Cond.selects RX5 yX5_hasTask yX5_hasTask ∈ gLW := List.mem_filter.mpr ⟨List.mem_of_getElem? (i := 856) (by decide +kernel), by decide +kernel⟩
theorem q_co_X5_hasTask : Cond.code yX5_hasTask cX5_hasTask 2 (some (Jvm.ClassFile.FieldType.boolean)) ∈ gLW := List.mem_filter.mpr ⟨List.mem_of_getElem? (i := 857) (by decide +kernel), by decide +kernel⟩
theorem q_cl_X8_186 : Cond.classLink RX8 186 "java/lang/IndexOutOfBoundsException" ∈ gLW := List.mem_filter.mpr ⟨List.mem_of_getElem? (i := 858) (by decide +kernel), by decide +kernel⟩
theorem q_ia_java_lang_IndexOutOfBoundsException : Cond.instantiable "java/lang/IndexOutOfBoundsException" 6 ∈ gLW := List.mem_filter.mpr ⟨List.mem_of_getElem? (i := 859) (by decide +kernel), by decide +kernel⟩
theorem q_ml_X8_190 : Cond.methodLink RX8 190 ⟨"java/lang/IndexOutOfBoundsException", "<init>", "(Ljava/lang/String;)V"⟩ ∈ gLW := List.mem_filter.mpr ⟨List.mem_of_getElem? (i := 868) (by decide +kernel), by decide +kernel⟩
theorem q_im_java_lang_IndexOutOfBoundsException__init___Ljava_lang_String_V : Cond.instanceMethod ⟨"java/lang/IndexOutOfBoundsException", "<init>", "(Ljava/lang/String;)V"⟩ ∈ gLW := List.mem_filter.mpr ⟨List.mem_of_getElem? (i := 869) (by decide +kernel), by decide +kernel⟩
theorem q_co_java_lang_IndexOutOfBoundsException__init___Ljava_lang_String_V : Cond.code ⟨"java/lang/IndexOutOfBoundsException", "<init>", "(Ljava/lang/String;)V"⟩ prog_15_method_2_code 2 none ∈ gLW := List.mem_filter.mpr ⟨List.mem_of_getElem? (i := 870) (by decide +kernel), by decide +kernel⟩
theorem q_ml_java_lang_IndexOutOfBoundsException_7 : Cond.methodLink "java/lang/IndexOutOfBoundsException" 7 ⟨"java/lang/RuntimeException", "<init>", "(Ljava/lang/String;)V"⟩ ∈ gLW := List.mem_filter.mpr ⟨List.mem_of_getElem? (i := 871) (by decide +kernel), by decide +kernel⟩
theorem q_ml_X8_125 : Cond.methodLink RX8 125 yX5_putBar ∈ gLW := List.mem_filter.mpr ⟨List.mem_of_getElem? (i := 875) (by decide +kernel), by decide +kernel⟩
theorem q_ml_L_100 : Cond.methodLink RL 100 yL_removeTask ∈ gLW := List.mem_filter.mpr ⟨List.mem_of_getElem? (i := 876) (by decide +kernel), by decide +kernel⟩
theorem q_st_L_removeTask : Cond.static yL_removeTask ∈ gLW := List.mem_filter.mpr ⟨List.mem_of_getElem? (i := 877) (by decide +kernel), by decide +kernel⟩
theorem q_cw_L_removeTask : Cond.codeWith yL_removeTask cL_removeTask 4 (some (Jvm.ClassFile.FieldType.int)) [((0 : Nat), (9 : Nat), (12 : Nat), (28 : Nat))] ∈ gLW := List.mem_filter.mpr ⟨List.mem_of_getElem? (i := 878) (by decide +kernel), by decide +kernel⟩
theorem q_ml_L_30 : Cond.methodLink RL 30 yX8_removeTask ∈ gLW := List.mem_filter.mpr ⟨List.mem_of_getElem? (i := 879) (by decide +kernel), by decide +kernel⟩
theorem q_im_X8_removeTask : Cond.instanceMethod yX8_removeTask ∈ gLW := List.mem_filter.mpr ⟨List.mem_of_getElem? (i := 880) (by decide +kernel), by decide +kernel⟩
theorem q_se_X8_removeTask : Cond.selects RX8 yX8_removeTask yX8_removeTask ∈ gLW := List.mem_filter.mpr ⟨List.mem_of_getElem? (i := 881) (by decide +kernel), by decide +kernel⟩
theorem q_co_X8_removeTask : Cond.code yX8_removeTask cX8_removeTask 3 (some (Jvm.ClassFile.FieldType.int)) ∈ gLW := List.mem_filter.mpr ⟨List.mem_of_getElem? (i := 882) (by decide +kernel), by decide +kernel⟩
theorem q_ml_X8_129 : Cond.methodLink RX8 129 yX5_dropTask ∈ gLW := List.mem_filter.mpr ⟨List.mem_of_getElem? (i := 883) (by decide +kernel), by decide +kernel⟩
theorem q_im_X5_dropTask : Cond.instanceMethod yX5_dropTask ∈ gLW := List.mem_filter.mpr ⟨List.mem_of_getElem? (i := 884) (by decide +kernel), by decide +kernel⟩
theorem q_se_X5_dropTask : Cond.selects RX5 yX5_dropTask yX5_dropTask ∈ gLW := List.mem_filter.mpr ⟨List.mem_of_getElem? (i := 885) (by decide +kernel), by decide +kernel⟩
theorem q_co_X5_dropTask : Cond.code yX5_dropTask cX5_dropTask 2 (some (Jvm.ClassFile.FieldType.int)) ∈ gLW := List.mem_filter.mpr ⟨List.mem_of_getElem? (i := 886) (by decide +kernel), by decide +kernel⟩
theorem q_ml_X5_66 : Cond.methodLink RX5 66 yX5_hasTask ∈ gLW := List.mem_filter.mpr ⟨List.mem_of_getElem? (i := 887) (by decide +kernel), by decide +kernel⟩
theorem q_ml_X5_80 : Cond.methodLink RX5 80 yX4_closeGap ∈ gLW := List.mem_filter.mpr ⟨List.mem_of_getElem? (i := 888) (by decide +kernel), by decide +kernel⟩
theorem q_im_X4_closeGap : Cond.instanceMethod yX4_closeGap ∈ gLW := List.mem_filter.mpr ⟨List.mem_of_getElem? (i := 889) (by decide +kernel), by decide +kernel⟩
theorem q_se_X4_closeGap : Cond.selects RX4 yX4_closeGap yX4_closeGap ∈ gLW := List.mem_filter.mpr ⟨List.mem_of_getElem? (i := 890) (by decide +kernel), by decide +kernel⟩
theorem q_co_X4_closeGap : Cond.code yX4_closeGap cX4_closeGap 3 none ∈ gLW := List.mem_filter.mpr ⟨List.mem_of_getElem? (i := 891) (by decide +kernel), by decide +kernel⟩
theorem q_ml_X5_83 : Cond.methodLink RX5 83 yX5_dropArrowsOf ∈ gLW := List.mem_filter.mpr ⟨List.mem_of_getElem? (i := 892) (by decide +kernel), by decide +kernel⟩
theorem q_im_X5_dropArrowsOf : Cond.instanceMethod yX5_dropArrowsOf ∈ gLW := List.mem_filter.mpr ⟨List.mem_of_getElem? (i := 894) (by decide +kernel), by decide +kernel⟩
theorem q_co_X5_dropArrowsOf : Cond.code yX5_dropArrowsOf cX5_dropArrowsOf 6 (some (Jvm.ClassFile.FieldType.int)) ∈ gLW := List.mem_filter.mpr ⟨List.mem_of_getElem? (i := 895) (by decide +kernel), by decide +kernel⟩
theorem q_ml_L_103 : Cond.methodLink RL 103 yL_addArrow ∈ gLW := List.mem_filter.mpr ⟨List.mem_of_getElem? (i := 896) (by decide +kernel), by decide +kernel⟩
theorem q_st_L_addArrow : Cond.static yL_addArrow ∈ gLW := List.mem_filter.mpr ⟨List.mem_of_getElem? (i := 897) (by decide +kernel), by decide +kernel⟩
theorem q_cw_L_addArrow : Cond.codeWith yL_addArrow cL_addArrow 5 (some (Jvm.ClassFile.FieldType.int)) [((0 : Nat), (10 : Nat), (13 : Nat), (28 : Nat)), ((0 : Nat), (10 : Nat), (17 : Nat), (13 : Nat)), ((0 : Nat), (10 : Nat), (21 : Nat), (23 : Nat))] ∈ gLW := List.mem_filter.mpr ⟨List.mem_of_getElem? (i := 898) (by decide +kernel), by decide +kernel⟩
theorem q_ml_L_33 : Cond.methodLink RL 33 yX8_addArrow ∈ gLW := List.mem_filter.mpr ⟨List.mem_of_getElem? (i := 899) (by decide +kernel), by decide +kernel⟩
theorem q_im_X8_addArrow : Cond.instanceMethod yX8_addArrow ∈ gLW := List.mem_filter.mpr ⟨List.mem_of_getElem? (i := 900) (by decide +kernel), by decide +kernel⟩
theorem q_se_X8_addArrow : Cond.selects RX8 yX8_addArrow yX8_addArrow ∈ gLW := List.mem_filter.mpr ⟨List.mem_of_getElem? (i := 901) (by decide +kernel), by decide +kernel⟩
theorem q_co_X8_addArrow : Cond.code yX8_addArrow cX8_addArrow 4 (some (Jvm.ClassFile.FieldType.int)) ∈ gLW := List.mem_filter.mpr ⟨List.mem_of_getElem? (i := 902) (by decide +kernel), by decide +kernel⟩
theorem q_ml_X8_134 : Cond.methodLink RX8 134 yX5_hasArrowBetween ∈ gLW := List.mem_filter.mpr ⟨List.mem_of_getElem? (i := 904) (by decide +kernel), by decide +kernel⟩
theorem q_ml_X8_142 : Cond.methodLink RX8 142 yX5_tellArrow ∈ gLW := List.mem_filter.mpr ⟨List.mem_of_getElem? (i := 906) (by decide +kernel), by decide +kernel⟩
theorem q_ml_L_106 : Cond.methodLink RL 106 yL_removeArrow ∈ gLW := List.mem_filter.mpr ⟨List.mem_of_getElem? (i := 907) (by decide +kernel), by decide +kernel⟩
theorem q_st_L_removeArrow : Cond.static yL_removeArrow ∈ gLW := List.mem_filter.mpr ⟨List.mem_of_getElem? (i := 908) (by decide +kernel), by decide +kernel⟩
theorem q_cw_L_removeArrow : Cond.codeWith yL_removeArrow cL_removeArrow 4 (some (Jvm.ClassFile.FieldType.int)) [((0 : Nat), (9 : Nat), (12 : Nat), (28 : Nat))] ∈ gLW := List.mem_filter.mpr ⟨List.mem_of_getElem? (i := 909) (by decide +kernel), by decide +kernel⟩
theorem q_ml_L_36 : Cond.methodLink RL 36 yX8_removeArrow ∈ gLW := List.mem_filter.mpr ⟨List.mem_of_getElem? (i := 910) (by decide +kernel), by decide +kernel⟩
theorem q_im_X8_removeArrow : Cond.instanceMethod yX8_removeArrow ∈ gLW := List.mem_filter.mpr ⟨List.mem_of_getElem? (i := 911) (by decide +kernel), by decide +kernel⟩
theorem q_se_X8_removeArrow : Cond.selects RX8 yX8_removeArrow yX8_removeArrow ∈ gLW := List.mem_filter.mpr ⟨List.mem_of_getElem? (i := 912) (by decide +kernel), by decide +kernel⟩
theorem q_co_X8_removeArrow : Cond.code yX8_removeArrow cX8_removeArrow 2 (some (Jvm.ClassFile.FieldType.int)) ∈ gLW := List.mem_filter.mpr ⟨List.mem_of_getElem? (i := 913) (by decide +kernel), by decide +kernel⟩
theorem q_ml_X8_146 : Cond.methodLink RX8 146 yX8_requireArrow ∈ gLW := List.mem_filter.mpr ⟨List.mem_of_getElem? (i := 914) (by decide +kernel), by decide +kernel⟩
theorem q_im_X8_requireArrow : Cond.instanceMethod yX8_requireArrow ∈ gLW := List.mem_filter.mpr ⟨List.mem_of_getElem? (i := 916) (by decide +kernel), by decide +kernel⟩
theorem q_co_X8_requireArrow : Cond.code yX8_requireArrow cX8_requireArrow 2 none ∈ gLW := List.mem_filter.mpr ⟨List.mem_of_getElem? (i := 917) (by decide +kernel), by decide +kernel⟩
theorem q_ml_X8_304 : Cond.methodLink RX8 304 yX5_hasArrow ∈ gLW := List.mem_filter.mpr ⟨List.mem_of_getElem? (i := 918) (by decide +kernel), by decide +kernel⟩
theorem q_im_X5_hasArrow : Cond.instanceMethod yX5_hasArrow ∈ gLW := List.mem_filter.mpr ⟨List.mem_of_getElem? (i := 919) (by decide +kernel), by decide +kernel⟩
theorem q_se_X5_hasArrow : Cond.selects RX5 yX5_hasArrow yX5_hasArrow ∈ gLW := List.mem_filter.mpr ⟨List.mem_of_getElem? (i := 920) (by decide +kernel), by decide +kernel⟩
theorem q_co_X5_hasArrow : Cond.code yX5_hasArrow cX5_hasArrow 2 (some (Jvm.ClassFile.FieldType.boolean)) ∈ gLW := List.mem_filter.mpr ⟨List.mem_of_getElem? (i := 921) (by decide +kernel), by decide +kernel⟩
theorem q_ml_X8_149 : Cond.methodLink RX8 149 yX5_dropArrow ∈ gLW := List.mem_filter.mpr ⟨List.mem_of_getElem? (i := 923) (by decide +kernel), by decide +kernel⟩
theorem q_im_X5_dropArrow : Cond.instanceMethod yX5_dropArrow ∈ gLW := List.mem_filter.mpr ⟨List.mem_of_getElem? (i := 924) (by decide +kernel), by decide +kernel⟩
theorem q_se_X5_dropArrow : Cond.selects RX5 yX5_dropArrow yX5_dropArrow ∈ gLW := List.mem_filter.mpr ⟨List.mem_of_getElem? (i := 925) (by decide +kernel), by decide +kernel⟩
theorem q_co_X5_dropArrow : Cond.code yX5_dropArrow cX5_dropArrow 2 none ∈ gLW := List.mem_filter.mpr ⟨List.mem_of_getElem? (i := 926) (by decide +kernel), by decide +kernel⟩
theorem q_ml_X5_77 : Cond.methodLink RX5 77 yX5_hasArrow ∈ gLW := List.mem_filter.mpr ⟨List.mem_of_getElem? (i := 927) (by decide +kernel), by decide +kernel⟩
theorem q_ml_L_109 : Cond.methodLink RL 109 yL_task ∈ gLW := List.mem_filter.mpr ⟨List.mem_of_getElem? (i := 928) (by decide +kernel), by decide +kernel⟩
theorem q_st_L_task : Cond.static yL_task ∈ gLW := List.mem_filter.mpr ⟨List.mem_of_getElem? (i := 929) (by decide +kernel), by decide +kernel⟩
theorem q_cw_L_task : Cond.codeWith yL_task cL_task 5 (some (Jvm.ClassFile.FieldType.int)) [((0 : Nat), (10 : Nat), (13 : Nat), (28 : Nat)), ((0 : Nat), (10 : Nat), (17 : Nat), (13 : Nat))] ∈ gLW := List.mem_filter.mpr ⟨List.mem_of_getElem? (i := 930) (by decide +kernel), by decide +kernel⟩
theorem q_ml_L_39 : Cond.methodLink RL 39 yX8_task ∈ gLW := List.mem_filter.mpr ⟨List.mem_of_getElem? (i := 931) (by decide +kernel), by decide +kernel⟩
theorem q_im_X8_task : Cond.instanceMethod yX8_task ∈ gLW := List.mem_filter.mpr ⟨List.mem_of_getElem? (i := 932) (by decide +kernel), by decide +kernel⟩
theorem q_se_X8_task : Cond.selects RX8 yX8_task yX8_task ∈ gLW := List.mem_filter.mpr ⟨List.mem_of_getElem? (i := 933) (by decide +kernel), by decide +kernel⟩
theorem q_co_X8_task : Cond.code yX8_task cX8_task 3 (some (Jvm.ClassFile.FieldType.int)) ∈ gLW := List.mem_filter.mpr ⟨List.mem_of_getElem? (i := 934) (by decide +kernel), by decide +kernel⟩
theorem q_ml_L_116 : Cond.methodLink RL 116 yL_row ∈ gLW := List.mem_filter.mpr ⟨List.mem_of_getElem? (i := 936) (by decide +kernel), by decide +kernel⟩
theorem q_st_L_row : Cond.static yL_row ∈ gLW := List.mem_filter.mpr ⟨List.mem_of_getElem? (i := 937) (by decide +kernel), by decide +kernel⟩
theorem q_cw_L_row : Cond.codeWith yL_row cL_row 5 (some (Jvm.ClassFile.FieldType.int)) [((0 : Nat), (10 : Nat), (13 : Nat), (28 : Nat))] ∈ gLW := List.mem_filter.mpr ⟨List.mem_of_getElem? (i := 938) (by decide +kernel), by decide +kernel⟩
theorem q_ml_L_42 : Cond.methodLink RL 42 yX8_row ∈ gLW := List.mem_filter.mpr ⟨List.mem_of_getElem? (i := 939) (by decide +kernel), by decide +kernel⟩
theorem q_im_X8_row : Cond.instanceMethod yX8_row ∈ gLW := List.mem_filter.mpr ⟨List.mem_of_getElem? (i := 940) (by decide +kernel), by decide +kernel⟩
theorem q_se_X8_row : Cond.selects RX8 yX8_row yX8_row ∈ gLW := List.mem_filter.mpr ⟨List.mem_of_getElem? (i := 941) (by decide +kernel), by decide +kernel⟩
theorem q_co_X8_row : Cond.code yX8_row cX8_row 3 (some (Jvm.ClassFile.FieldType.int)) ∈ gLW := List.mem_filter.mpr ⟨List.mem_of_getElem? (i := 942) (by decide +kernel), by decide +kernel⟩
theorem q_ml_X8_160 : Cond.methodLink RX8 160 yX8_requireBand ∈ gLW := List.mem_filter.mpr ⟨List.mem_of_getElem? (i := 943) (by decide +kernel), by decide +kernel⟩
theorem q_im_X8_requireBand : Cond.instanceMethod yX8_requireBand ∈ gLW := List.mem_filter.mpr ⟨List.mem_of_getElem? (i := 945) (by decide +kernel), by decide +kernel⟩
theorem q_co_X8_requireBand : Cond.code yX8_requireBand cX8_requireBand 2 none ∈ gLW := List.mem_filter.mpr ⟨List.mem_of_getElem? (i := 946) (by decide +kernel), by decide +kernel⟩
theorem q_ml_X8_163 : Cond.methodLink RX8 163 yX8_requireRow ∈ gLW := List.mem_filter.mpr ⟨List.mem_of_getElem? (i := 948) (by decide +kernel), by decide +kernel⟩
theorem q_im_X8_requireRow : Cond.instanceMethod yX8_requireRow ∈ gLW := List.mem_filter.mpr ⟨List.mem_of_getElem? (i := 950) (by decide +kernel), by decide +kernel⟩
theorem q_co_X8_requireRow : Cond.code yX8_requireRow cX8_requireRow 2 none ∈ gLW := List.mem_filter.mpr ⟨List.mem_of_getElem? (i := 951) (by decide +kernel), by decide +kernel⟩
theorem q_ml_L_123 : Cond.methodLink RL 123 yL_sheet ∈ gLW := List.mem_filter.mpr ⟨List.mem_of_getElem? (i := 953) (by decide +kernel), by decide +kernel⟩
theorem q_st_L_sheet : Cond.static yL_sheet ∈ gLW := List.mem_filter.mpr ⟨List.mem_of_getElem? (i := 954) (by decide +kernel), by decide +kernel⟩
theorem q_cw_L_sheet : Cond.codeWith yL_sheet cL_sheet 5 (some (Jvm.ClassFile.FieldType.int)) [((0 : Nat), (10 : Nat), (13 : Nat), (28 : Nat)), ((0 : Nat), (10 : Nat), (17 : Nat), (13 : Nat))] ∈ gLW := List.mem_filter.mpr ⟨List.mem_of_getElem? (i := 955) (by decide +kernel), by decide +kernel⟩
theorem q_ml_L_45 : Cond.methodLink RL 45 yX8_sheet ∈ gLW := List.mem_filter.mpr ⟨List.mem_of_getElem? (i := 956) (by decide +kernel), by decide +kernel⟩
theorem q_im_X8_sheet : Cond.instanceMethod yX8_sheet ∈ gLW := List.mem_filter.mpr ⟨List.mem_of_getElem? (i := 957) (by decide +kernel), by decide +kernel⟩
theorem q_se_X8_sheet : Cond.selects RX8 yX8_sheet yX8_sheet ∈ gLW := List.mem_filter.mpr ⟨List.mem_of_getElem? (i := 958) (by decide +kernel), by decide +kernel⟩
theorem q_co_X8_sheet : Cond.code yX8_sheet cX8_sheet 3 (some (Jvm.ClassFile.FieldType.int)) ∈ gLW := List.mem_filter.mpr ⟨List.mem_of_getElem? (i := 959) (by decide +kernel), by decide +kernel⟩
theorem q_ml_X8_170 : Cond.methodLink RX8 170 yX8_requireSheet ∈ gLW := List.mem_filter.mpr ⟨List.mem_of_getElem? (i := 960) (by decide +kernel), by decide +kernel⟩
theorem q_im_X8_requireSheet : Cond.instanceMethod yX8_requireSheet ∈ gLW := List.mem_filter.mpr ⟨List.mem_of_getElem? (i := 962) (by decide +kernel), by decide +kernel⟩
theorem q_co_X8_requireSheet : Cond.code yX8_requireSheet cX8_requireSheet 2 none ∈ gLW := List.mem_filter.mpr ⟨List.mem_of_getElem? (i := 963) (by decide +kernel), by decide +kernel⟩
theorem q_ml_L_126 : Cond.methodLink RL 126 yL_sheetAt ∈ gLW := List.mem_filter.mpr ⟨List.mem_of_getElem? (i := 966) (by decide +kernel), by decide +kernel⟩
theorem q_st_L_sheetAt : Cond.static yL_sheetAt ∈ gLW := List.mem_filter.mpr ⟨List.mem_of_getElem? (i := 967) (by decide +kernel), by decide +kernel⟩
theorem q_cw_L_sheetAt : Cond.codeWith yL_sheetAt cL_sheetAt 5 (some (Jvm.ClassFile.FieldType.int)) [((0 : Nat), (10 : Nat), (13 : Nat), (28 : Nat)), ((0 : Nat), (10 : Nat), (17 : Nat), (13 : Nat))] ∈ gLW := List.mem_filter.mpr ⟨List.mem_of_getElem? (i := 968) (by decide +kernel), by decide +kernel⟩
theorem q_ml_L_48 : Cond.methodLink RL 48 yX8_sheetAt ∈ gLW := List.mem_filter.mpr ⟨List.mem_of_getElem? (i := 969) (by decide +kernel), by decide +kernel⟩
theorem q_im_X8_sheetAt : Cond.instanceMethod yX8_sheetAt ∈ gLW := List.mem_filter.mpr ⟨List.mem_of_getElem? (i := 970) (by decide +kernel), by decide +kernel⟩
theorem q_se_X8_sheetAt : Cond.selects RX8 yX8_sheetAt yX8_sheetAt ∈ gLW := List.mem_filter.mpr ⟨List.mem_of_getElem? (i := 971) (by decide +kernel), by decide +kernel⟩
theorem q_co_X8_sheetAt : Cond.code yX8_sheetAt cX8_sheetAt 3 (some (Jvm.ClassFile.FieldType.int)) ∈ gLW := List.mem_filter.mpr ⟨List.mem_of_getElem? (i := 972) (by decide +kernel), by decide +kernel⟩
theorem q_ml_X8_180 : Cond.methodLink RX8 180 yX6_numberAt ∈ gLW := List.mem_filter.mpr ⟨List.mem_of_getElem? (i := 974) (by decide +kernel), by decide +kernel⟩
theorem q_ml_L_129 : Cond.methodLink RL 129 yL_part ∈ gLW := List.mem_filter.mpr ⟨List.mem_of_getElem? (i := 975) (by decide +kernel), by decide +kernel⟩
theorem q_st_L_part : Cond.static yL_part ∈ gLW := List.mem_filter.mpr ⟨List.mem_of_getElem? (i := 976) (by decide +kernel), by decide +kernel⟩
theorem q_cw_L_part : Cond.codeWith yL_part cL_part 6 (some (Jvm.ClassFile.FieldType.int)) [((0 : Nat), (12 : Nat), (15 : Nat), (28 : Nat)), ((0 : Nat), (12 : Nat), (19 : Nat), (13 : Nat))] ∈ gLW := List.mem_filter.mpr ⟨List.mem_of_getElem? (i := 977) (by decide +kernel), by decide +kernel⟩
theorem q_ml_L_51 : Cond.methodLink RL 51 yX8_part ∈ gLW := List.mem_filter.mpr ⟨List.mem_of_getElem? (i := 978) (by decide +kernel), by decide +kernel⟩
theorem q_im_X8_part : Cond.instanceMethod yX8_part ∈ gLW := List.mem_filter.mpr ⟨List.mem_of_getElem? (i := 979) (by decide +kernel), by decide +kernel⟩
theorem q_se_X8_part : Cond.selects RX8 yX8_part yX8_part ∈ gLW := List.mem_filter.mpr ⟨List.mem_of_getElem? (i := 980) (by decide +kernel), by decide +kernel⟩
theorem q_co_X8_part : Cond.code yX8_part cX8_part 4 (some (Jvm.ClassFile.FieldType.int)) ∈ gLW := List.mem_filter.mpr ⟨List.mem_of_getElem? (i := 981) (by decide +kernel), by decide +kernel⟩
theorem q_ml_X8_193 : Cond.methodLink RX8 193 yX8_numberOfPart ∈ gLW := List.mem_filter.mpr ⟨List.mem_of_getElem? (i := 984) (by decide +kernel), by decide +kernel⟩
theorem q_im_X8_numberOfPart : Cond.instanceMethod yX8_numberOfPart ∈ gLW := List.mem_filter.mpr ⟨List.mem_of_getElem? (i := 986) (by decide +kernel), by decide +kernel⟩
theorem q_co_X8_numberOfPart : Cond.code yX8_numberOfPart cX8_numberOfPart 9 (some (Jvm.ClassFile.FieldType.int)) ∈ gLW := List.mem_filter.mpr ⟨List.mem_of_getElem? (i := 987) (by decide +kernel), by decide +kernel⟩
theorem q_ml_X8_243 : Cond.methodLink RX8 243 yJ9_max_7cf53 ∈ gLW := List.mem_filter.mpr ⟨List.mem_of_getElem? (i := 988) (by decide +kernel), by decide +kernel⟩
theorem q_ml_X8_343 : Cond.methodLink RX8 343 yJ9_min_7cf53 ∈ gLW := List.mem_filter.mpr ⟨List.mem_of_getElem? (i := 989) (by decide +kernel), by decide +kernel⟩
theorem q_st_J9_min_7cf53 : Cond.static yJ9_min_7cf53 ∈ gLW := List.mem_filter.mpr ⟨List.mem_of_getElem? (i := 990) (by decide +kernel), by decide +kernel⟩
theorem q_co_J9_min_7cf53 : Cond.code yJ9_min_7cf53 prog_16_method_69_code 2 (some (Jvm.ClassFile.FieldType.int)) ∈ gLW := List.mem_filter.mpr ⟨List.mem_of_getElem? (i := 991) (by decide +kernel), by decide +kernel⟩
theorem q_ml_L_132 : Cond.methodLink RL 132 yL_arrow ∈ gLW := List.mem_filter.mpr ⟨List.mem_of_getElem? (i := 992) (by decide +kernel), by decide +kernel⟩
theorem q_st_L_arrow : Cond.static yL_arrow ∈ gLW := List.mem_filter.mpr ⟨List.mem_of_getElem? (i := 993) (by decide +kernel), by decide +kernel⟩
theorem q_cw_L_arrow : Cond.codeWith yL_arrow cL_arrow 5 (some (Jvm.ClassFile.FieldType.int)) [((0 : Nat), (10 : Nat), (13 : Nat), (28 : Nat)), ((0 : Nat), (10 : Nat), (17 : Nat), (13 : Nat))] ∈ gLW := List.mem_filter.mpr ⟨List.mem_of_getElem? (i := 994) (by decide +kernel), by decide +kernel⟩
theorem q_ml_L_54 : Cond.methodLink RL 54 yX8_arrow ∈ gLW := List.mem_filter.mpr ⟨List.mem_of_getElem? (i := 995) (by decide +kernel), by decide +kernel⟩
theorem q_im_X8_arrow : Cond.instanceMethod yX8_arrow ∈ gLW := List.mem_filter.mpr ⟨List.mem_of_getElem? (i := 996) (by decide +kernel), by decide +kernel⟩
theorem q_se_X8_arrow : Cond.selects RX8 yX8_arrow yX8_arrow ∈ gLW := List.mem_filter.mpr ⟨List.mem_of_getElem? (i := 997) (by decide +kernel), by decide +kernel⟩
theorem q_co_X8_arrow : Cond.code yX8_arrow cX8_arrow 3 (some (Jvm.ClassFile.FieldType.int)) ∈ gLW := List.mem_filter.mpr ⟨List.mem_of_getElem? (i := 998) (by decide +kernel), by decide +kernel⟩
theorem q_ml_L_135 : Cond.methodLink RL 135 yL_arrowOf ∈ gLW := List.mem_filter.mpr ⟨List.mem_of_getElem? (i := 1000) (by decide +kernel), by decide +kernel⟩
theorem q_st_L_arrowOf : Cond.static yL_arrowOf ∈ gLW := List.mem_filter.mpr ⟨List.mem_of_getElem? (i := 1001) (by decide +kernel), by decide +kernel⟩
theorem q_cw_L_arrowOf : Cond.codeWith yL_arrowOf cL_arrowOf 4 (some (Jvm.ClassFile.FieldType.int)) [((0 : Nat), (9 : Nat), (12 : Nat), (28 : Nat))] ∈ gLW := List.mem_filter.mpr ⟨List.mem_of_getElem? (i := 1002) (by decide +kernel), by decide +kernel⟩
theorem q_ml_L_57 : Cond.methodLink RL 57 yX8_arrowOf ∈ gLW := List.mem_filter.mpr ⟨List.mem_of_getElem? (i := 1003) (by decide +kernel), by decide +kernel⟩
theorem q_im_X8_arrowOf : Cond.instanceMethod yX8_arrowOf ∈ gLW := List.mem_filter.mpr ⟨List.mem_of_getElem? (i := 1004) (by decide +kernel), by decide +kernel⟩
theorem q_se_X8_arrowOf : Cond.selects RX8 yX8_arrowOf yX8_arrowOf ∈ gLW := List.mem_filter.mpr ⟨List.mem_of_getElem? (i := 1005) (by decide +kernel), by decide +kernel⟩
theorem q_co_X8_arrowOf : Cond.code yX8_arrowOf cX8_arrowOf 2 (some (Jvm.ClassFile.FieldType.int)) ∈ gLW := List.mem_filter.mpr ⟨List.mem_of_getElem? (i := 1006) (by decide +kernel), by decide +kernel⟩
theorem q_ml_X8_201 : Cond.methodLink RX8 201 yX2_count ∈ gLW := List.mem_filter.mpr ⟨List.mem_of_getElem? (i := 1007) (by decide +kernel), by decide +kernel⟩
theorem q_im_X2_count : Cond.instanceMethod yX2_count ∈ gLW := List.mem_filter.mpr ⟨List.mem_of_getElem? (i := 1008) (by decide +kernel), by decide +kernel⟩
theorem q_se_X2_count : Cond.selects RX2 yX2_count yX2_count ∈ gLW := List.mem_filter.mpr ⟨List.mem_of_getElem? (i := 1009) (by decide +kernel), by decide +kernel⟩
theorem q_co_X2_count : Cond.code yX2_count cX2_count 1 (some (Jvm.ClassFile.FieldType.int)) ∈ gLW := List.mem_filter.mpr ⟨List.mem_of_getElem? (i := 1010) (by decide +kernel), by decide +kernel⟩
theorem q_ml_X8_204 : Cond.methodLink RX8 204 yX2_arrowBehind ∈ gLW := List.mem_filter.mpr ⟨List.mem_of_getElem? (i := 1012) (by decide +kernel), by decide +kernel⟩
theorem q_im_X2_arrowBehind : Cond.instanceMethod yX2_arrowBehind ∈ gLW := List.mem_filter.mpr ⟨List.mem_of_getElem? (i := 1013) (by decide +kernel), by decide +kernel⟩
theorem q_se_X2_arrowBehind : Cond.selects RX2 yX2_arrowBehind yX2_arrowBehind ∈ gLW := List.mem_filter.mpr ⟨List.mem_of_getElem? (i := 1014) (by decide +kernel), by decide +kernel⟩
theorem q_co_X2_arrowBehind : Cond.code yX2_arrowBehind cX2_arrowBehind 2 (some (Jvm.ClassFile.FieldType.int)) ∈ gLW := List.mem_filter.mpr ⟨List.mem_of_getElem? (i := 1015) (by decide +kernel), by decide +kernel⟩
theorem q_ml_L_138 : Cond.methodLink RL 138 yL_taskAt ∈ gLW := List.mem_filter.mpr ⟨List.mem_of_getElem? (i := 1016) (by decide +kernel), by decide +kernel⟩
theorem q_st_L_taskAt : Cond.static yL_taskAt ∈ gLW := List.mem_filter.mpr ⟨List.mem_of_getElem? (i := 1017) (by decide +kernel), by decide +kernel⟩
theorem q_cw_L_taskAt : Cond.codeWith yL_taskAt cL_taskAt 6 (some (Jvm.ClassFile.FieldType.int)) [((0 : Nat), (12 : Nat), (15 : Nat), (28 : Nat))] ∈ gLW := List.mem_filter.mpr ⟨List.mem_of_getElem? (i := 1018) (by decide +kernel), by decide +kernel⟩
theorem q_ml_L_60 : Cond.methodLink RL 60 yX8_taskAt ∈ gLW := List.mem_filter.mpr ⟨List.mem_of_getElem? (i := 1019) (by decide +kernel), by decide +kernel⟩
theorem q_im_X8_taskAt : Cond.instanceMethod yX8_taskAt ∈ gLW := List.mem_filter.mpr ⟨List.mem_of_getElem? (i := 1020) (by decide +kernel), by decide +kernel⟩
theorem q_se_X8_taskAt : Cond.selects RX8 yX8_taskAt yX8_taskAt ∈ gLW := List.mem_filter.mpr ⟨List.mem_of_getElem? (i := 1021) (by decide +kernel), by decide +kernel⟩
theorem q_co_X8_taskAt : Cond.code yX8_taskAt cX8_taskAt 6 (some (Jvm.ClassFile.FieldType.int)) ∈ gLW := List.mem_filter.mpr ⟨List.mem_of_getElem? (i := 1022) (by decide +kernel), by decide +kernel⟩
theorem q_ml_X8_215 : Cond.methodLink RX8 215 yX5_covers ∈ gLW := List.mem_filter.mpr ⟨List.mem_of_getElem? (i := 1024) (by decide +kernel), by decide +kernel⟩
theorem q_im_X5_covers : Cond.instanceMethod yX5_covers ∈ gLW := List.mem_filter.mpr ⟨List.mem_of_getElem? (i := 1025) (by decide +kernel), by decide +kernel⟩
theorem q_se_X5_covers : Cond.selects RX5 yX5_covers yX5_covers ∈ gLW := List.mem_filter.mpr ⟨List.mem_of_getElem? (i := 1026) (by decide +kernel), by decide +kernel⟩
theorem q_co_X5_covers : Cond.code yX5_covers cX5_covers 3 (some (Jvm.ClassFile.FieldType.boolean)) ∈ gLW := List.mem_filter.mpr ⟨List.mem_of_getElem? (i := 1027) (by decide +kernel), by decide +kernel⟩
theorem q_ml_L_146 : Cond.methodLink RL 146 yL_sheetsWith ∈ gLW := List.mem_filter.mpr ⟨List.mem_of_getElem? (i := 1028) (by decide +kernel), by decide +kernel⟩
theorem q_st_L_sheetsWith : Cond.static yL_sheetsWith ∈ gLW := List.mem_filter.mpr ⟨List.mem_of_getElem? (i := 1029) (by decide +kernel), by decide +kernel⟩
theorem q_cw_L_sheetsWith : Cond.codeWith yL_sheetsWith cL_sheetsWith 5 (some (Jvm.ClassFile.FieldType.int)) [((0 : Nat), (10 : Nat), (13 : Nat), (13 : Nat))] ∈ gLW := List.mem_filter.mpr ⟨List.mem_of_getElem? (i := 1030) (by decide +kernel), by decide +kernel⟩
theorem q_ml_L_63 : Cond.methodLink RL 63 yX8_sheetsWith ∈ gLW := List.mem_filter.mpr ⟨List.mem_of_getElem? (i := 1031) (by decide +kernel), by decide +kernel⟩
theorem q_im_X8_sheetsWith : Cond.instanceMethod yX8_sheetsWith ∈ gLW := List.mem_filter.mpr ⟨List.mem_of_getElem? (i := 1032) (by decide +kernel), by decide +kernel⟩
theorem q_se_X8_sheetsWith : Cond.selects RX8 yX8_sheetsWith yX8_sheetsWith ∈ gLW := List.mem_filter.mpr ⟨List.mem_of_getElem? (i := 1033) (by decide +kernel), by decide +kernel⟩
theorem q_co_X8_sheetsWith : Cond.code yX8_sheetsWith cX8_sheetsWith 3 (some (Jvm.ClassFile.FieldType.int)) ∈ gLW := List.mem_filter.mpr ⟨List.mem_of_getElem? (i := 1034) (by decide +kernel), by decide +kernel⟩
theorem q_ml_L_153 : Cond.methodLink RL 153 yL_delay ∈ gLW := List.mem_filter.mpr ⟨List.mem_of_getElem? (i := 1036) (by decide +kernel), by decide +kernel⟩
theorem q_st_L_delay : Cond.static yL_delay ∈ gLW := List.mem_filter.mpr ⟨List.mem_of_getElem? (i := 1037) (by decide +kernel), by decide +kernel⟩
theorem q_cw_L_delay : Cond.codeWith yL_delay cL_delay 4 (some (Jvm.ClassFile.FieldType.int)) [((0 : Nat), (9 : Nat), (12 : Nat), (28 : Nat))] ∈ gLW := List.mem_filter.mpr ⟨List.mem_of_getElem? (i := 1038) (by decide +kernel), by decide +kernel⟩
theorem q_ml_L_66 : Cond.methodLink RL 66 yX8_delay ∈ gLW := List.mem_filter.mpr ⟨List.mem_of_getElem? (i := 1039) (by decide +kernel), by decide +kernel⟩
theorem q_im_X8_delay : Cond.instanceMethod yX8_delay ∈ gLW := List.mem_filter.mpr ⟨List.mem_of_getElem? (i := 1040) (by decide +kernel), by decide +kernel⟩
theorem q_se_X8_delay : Cond.selects RX8 yX8_delay yX8_delay ∈ gLW := List.mem_filter.mpr ⟨List.mem_of_getElem? (i := 1041) (by decide +kernel), by decide +kernel⟩
theorem q_co_X8_delay : Cond.code yX8_delay cX8_delay 4 (some (Jvm.ClassFile.FieldType.int)) ∈ gLW := List.mem_filter.mpr ⟨List.mem_of_getElem? (i := 1042) (by decide +kernel), by decide +kernel⟩
theorem q_ml_L_160 : Cond.methodLink RL 160 yL_append ∈ gLW := List.mem_filter.mpr ⟨List.mem_of_getElem? (i := 1043) (by decide +kernel), by decide +kernel⟩
theorem q_st_L_append : Cond.static yL_append ∈ gLW := List.mem_filter.mpr ⟨List.mem_of_getElem? (i := 1044) (by decide +kernel), by decide +kernel⟩
theorem q_cw_L_append : Cond.codeWith yL_append cL_append 4 (some (Jvm.ClassFile.FieldType.int)) [((0 : Nat), (9 : Nat), (12 : Nat), (13 : Nat)), ((0 : Nat), (9 : Nat), (15 : Nat), (23 : Nat))] ∈ gLW := List.mem_filter.mpr ⟨List.mem_of_getElem? (i := 1045) (by decide +kernel), by decide +kernel⟩
theorem q_ml_L_69 : Cond.methodLink RL 69 yX8_append ∈ gLW := List.mem_filter.mpr ⟨List.mem_of_getElem? (i := 1046) (by decide +kernel), by decide +kernel⟩
theorem q_im_X8_append : Cond.instanceMethod yX8_append ∈ gLW := List.mem_filter.mpr ⟨List.mem_of_getElem? (i := 1047) (by decide +kernel), by decide +kernel⟩
theorem q_se_X8_append : Cond.selects RX8 yX8_append yX8_append ∈ gLW := List.mem_filter.mpr ⟨List.mem_of_getElem? (i := 1048) (by decide +kernel), by decide +kernel⟩
theorem q_co_X8_append : Cond.code yX8_append cX8_append 2 (some (Jvm.ClassFile.FieldType.int)) ∈ gLW := List.mem_filter.mpr ⟨List.mem_of_getElem? (i := 1049) (by decide +kernel), by decide +kernel⟩
theorem q_ml_X8_259 : Cond.methodLink RX8 259 yX7_add ∈ gLW := List.mem_filter.mpr ⟨List.mem_of_getElem? (i := 1052) (by decide +kernel), by decide +kernel⟩
theorem q_im_X7_add : Cond.instanceMethod yX7_add ∈ gLW := List.mem_filter.mpr ⟨List.mem_of_getElem? (i := 1053) (by decide +kernel), by decide +kernel⟩
theorem q_se_X7_add : Cond.selects RX7 yX7_add yX7_add ∈ gLW := List.mem_filter.mpr ⟨List.mem_of_getElem? (i := 1054) (by decide +kernel), by decide +kernel⟩
theorem q_co_X7_add : Cond.code yX7_add cX7_add 2 none ∈ gLW := List.mem_filter.mpr ⟨List.mem_of_getElem? (i := 1055) (by decide +kernel), by decide +kernel⟩
theorem q_ml_X7_24 : Cond.methodLink RX7 24 yX4_put ∈ gLW := List.mem_filter.mpr ⟨List.mem_of_getElem? (i := 1056) (by decide +kernel), by decide +kernel⟩
theorem q_ml_L_171 : Cond.methodLink RL 171 yL_undo ∈ gLW := List.mem_filter.mpr ⟨List.mem_of_getElem? (i := 1057) (by decide +kernel), by decide +kernel⟩
theorem q_st_L_undo : Cond.static yL_undo ∈ gLW := List.mem_filter.mpr ⟨List.mem_of_getElem? (i := 1058) (by decide +kernel), by decide +kernel⟩
theorem q_cw_L_undo : Cond.codeWith yL_undo cL_undo 3 (some (Jvm.ClassFile.FieldType.int)) [((0 : Nat), (8 : Nat), (11 : Nat), (23 : Nat))] ∈ gLW := List.mem_filter.mpr ⟨List.mem_of_getElem? (i := 1059) (by decide +kernel), by decide +kernel⟩
theorem q_ml_L_72 : Cond.methodLink RL 72 yX8_undo ∈ gLW := List.mem_filter.mpr ⟨List.mem_of_getElem? (i := 1060) (by decide +kernel), by decide +kernel⟩
theorem q_im_X8_undo : Cond.instanceMethod yX8_undo ∈ gLW := List.mem_filter.mpr ⟨List.mem_of_getElem? (i := 1061) (by decide +kernel), by decide +kernel⟩
theorem q_se_X8_undo : Cond.selects RX8 yX8_undo yX8_undo ∈ gLW := List.mem_filter.mpr ⟨List.mem_of_getElem? (i := 1062) (by decide +kernel), by decide +kernel⟩
theorem q_co_X8_undo : Cond.code yX8_undo cX8_undo 1 (some (Jvm.ClassFile.FieldType.int)) ∈ gLW := List.mem_filter.mpr ⟨List.mem_of_getElem? (i := 1063) (by decide +kernel), by decide +kernel⟩
theorem q_ml_X8_274 : Cond.methodLink RX8 274 yX3_restore ∈ gLW := List.mem_filter.mpr ⟨List.mem_of_getElem? (i := 1065) (by decide +kernel), by decide +kernel⟩
theorem q_im_X3_restore : Cond.instanceMethod yX3_restore ∈ gLW := List.mem_filter.mpr ⟨List.mem_of_getElem? (i := 1066) (by decide +kernel), by decide +kernel⟩
theorem q_se_X3_restore : Cond.selects RX3 yX3_restore yX3_restore ∈ gLW := List.mem_filter.mpr ⟨List.mem_of_getElem? (i := 1067) (by decide +kernel), by decide +kernel⟩
theorem q_co_X3_restore : Cond.code yX3_restore cX3_restore 4 none ∈ gLW := List.mem_filter.mpr ⟨List.mem_of_getElem? (i := 1068) (by decide +kernel), by decide +kernel⟩
theorem q_cl_L_77 : Cond.classLink RL 77 RX9 ∈ gLW := List.mem_filter.mpr ⟨List.mem_of_getElem? (i := 1069) (by decide +kernel), by decide +kernel⟩
theorem q_ia_X9 : Cond.instantiable RX9 19 ∈ gLW := List.mem_filter.mpr ⟨List.mem_of_getElem? (i := 1070) (by decide +kernel), by decide +kernel⟩
theorem q_ml_L_79 : Cond.methodLink RL 79 yX9_init ∈ gLW := List.mem_filter.mpr ⟨List.mem_of_getElem? (i := 1071) (by decide +kernel), by decide +kernel⟩
theorem q_im_X9_init : Cond.instanceMethod yX9_init ∈ gLW := List.mem_filter.mpr ⟨List.mem_of_getElem? (i := 1072) (by decide +kernel), by decide +kernel⟩
theorem q_co_X9_init : Cond.code yX9_init cX9_init 1 none ∈ gLW := List.mem_filter.mpr ⟨List.mem_of_getElem? (i := 1073) (by decide +kernel), by decide +kernel⟩
theorem q_ml_X9_1 : Cond.methodLink RX9 1 objectInit ∈ gLW := List.mem_filter.mpr ⟨List.mem_of_getElem? (i := 1074) (by decide +kernel), by decide +kernel⟩
theorem q_fl_X9_7 : Cond.fieldLink RX9 7 "TaskSheetsModel" "s" "[I" ∈ gLW := List.mem_filter.mpr ⟨List.mem_of_getElem? (i := 1075) (by decide +kernel), by decide +kernel⟩
theorem q_fl_X9_13 : Cond.fieldLink RX9 13 "TaskSheetsModel" "past" "[I" ∈ gLW := List.mem_filter.mpr ⟨List.mem_of_getElem? (i := 1076) (by decide +kernel), by decide +kernel⟩
theorem q_fl_X9_16 : Cond.fieldLink RX9 16 "TaskSheetsModel" "aside" "[I" ∈ gLW := List.mem_filter.mpr ⟨List.mem_of_getElem? (i := 1077) (by decide +kernel), by decide +kernel⟩
theorem q_fl_X9_44 : Cond.fieldLink RX9 44 "TaskSheetsModel" "pasts" "I" ∈ gLW := List.mem_filter.mpr ⟨List.mem_of_getElem? (i := 1078) (by decide +kernel), by decide +kernel⟩
theorem q_fl_X9_19 : Cond.fieldLink RX9 19 "TaskSheetsModel" "text" "[I" ∈ gLW := List.mem_filter.mpr ⟨List.mem_of_getElem? (i := 1079) (by decide +kernel), by decide +kernel⟩
theorem q_fl_X9_181 : Cond.fieldLink RX9 181 "TaskSheetsModel" "typed" "I" ∈ gLW := List.mem_filter.mpr ⟨List.mem_of_getElem? (i := 1080) (by decide +kernel), by decide +kernel⟩
theorem q_fl_X9_40 : Cond.fieldLink RX9 40 "TaskSheetsModel" "thrown" "I" ∈ gLW := List.mem_filter.mpr ⟨List.mem_of_getElem? (i := 1081) (by decide +kernel), by decide +kernel⟩
theorem q_fl_X9_103 : Cond.fieldLink RX9 103 "TaskSheetsModel" "bandMany" "I" ∈ gLW := List.mem_filter.mpr ⟨List.mem_of_getElem? (i := 1082) (by decide +kernel), by decide +kernel⟩
theorem q_fl_X9_106 : Cond.fieldLink RX9 106 "TaskSheetsModel" "used" "I" ∈ gLW := List.mem_filter.mpr ⟨List.mem_of_getElem? (i := 1083) (by decide +kernel), by decide +kernel⟩
theorem q_fl_X9_22 : Cond.fieldLink RX9 22 "TaskSheetsModel" "rows" "[I" ∈ gLW := List.mem_filter.mpr ⟨List.mem_of_getElem? (i := 1084) (by decide +kernel), by decide +kernel⟩
theorem q_fl_X9_25 : Cond.fieldLink RX9 25 "TaskSheetsModel" "bandOf" "[I" ∈ gLW := List.mem_filter.mpr ⟨List.mem_of_getElem? (i := 1085) (by decide +kernel), by decide +kernel⟩
theorem q_fl_X9_28 : Cond.fieldLink RX9 28 "TaskSheetsModel" "rowOf" "[I" ∈ gLW := List.mem_filter.mpr ⟨List.mem_of_getElem? (i := 1086) (by decide +kernel), by decide +kernel⟩
theorem q_fl_X9_130 : Cond.fieldLink RX9 130 "TaskSheetsModel" "sheetMany" "I" ∈ gLW := List.mem_filter.mpr ⟨List.mem_of_getElem? (i := 1087) (by decide +kernel), by decide +kernel⟩
theorem q_fl_X9_31 : Cond.fieldLink RX9 31 "TaskSheetsModel" "numbers" "[I" ∈ gLW := List.mem_filter.mpr ⟨List.mem_of_getElem? (i := 1088) (by decide +kernel), by decide +kernel⟩
theorem q_fl_X9_34 : Cond.fieldLink RX9 34 "TaskSheetsModel" "placeOf" "[I" ∈ gLW := List.mem_filter.mpr ⟨List.mem_of_getElem? (i := 1089) (by decide +kernel), by decide +kernel⟩
theorem q_fl_X9_37 : Cond.fieldLink RX9 37 "TaskSheetsModel" "chain" "[I" ∈ gLW := List.mem_filter.mpr ⟨List.mem_of_getElem? (i := 1090) (by decide +kernel), by decide +kernel⟩
theorem q_fl_X9_184 : Cond.fieldLink RX9 184 "TaskSheetsModel" "at" "I" ∈ gLW := List.mem_filter.mpr ⟨List.mem_of_getElem? (i := 1091) (by decide +kernel), by decide +kernel⟩
theorem q_fl_X9_190 : Cond.fieldLink RX9 190 "TaskSheetsModel" "number" "I" ∈ gLW := List.mem_filter.mpr ⟨List.mem_of_getElem? (i := 1092) (by decide +kernel), by decide +kernel⟩
theorem q_fl_X9_209 : Cond.fieldLink RX9 209 "TaskSheetsModel" "h" "J" ∈ gLW := List.mem_filter.mpr ⟨List.mem_of_getElem? (i := 1093) (by decide +kernel), by decide +kernel⟩
theorem q_ml_L_86 : Cond.methodLink RL 86 yX9_thrown ∈ gLW := List.mem_filter.mpr ⟨List.mem_of_getElem? (i := 1133) (by decide +kernel), by decide +kernel⟩
theorem q_im_X9_thrown : Cond.instanceMethod yX9_thrown ∈ gLW := List.mem_filter.mpr ⟨List.mem_of_getElem? (i := 1134) (by decide +kernel), by decide +kernel⟩
theorem q_se_X9_thrown : Cond.selects RX9 yX9_thrown yX9_thrown ∈ gLW := List.mem_filter.mpr ⟨List.mem_of_getElem? (i := 1135) (by decide +kernel), by decide +kernel⟩
theorem q_co_X9_thrown : Cond.code yX9_thrown cX9_thrown 1 (some (Jvm.ClassFile.FieldType.int)) ∈ gLW := List.mem_filter.mpr ⟨List.mem_of_getElem? (i := 1136) (by decide +kernel), by decide +kernel⟩
theorem q_ml_L_85 : Cond.methodLink RL 85 yX9_set ∈ gLW := List.mem_filter.mpr ⟨List.mem_of_getElem? (i := 1137) (by decide +kernel), by decide +kernel⟩
theorem q_im_X9_set : Cond.instanceMethod yX9_set ∈ gLW := List.mem_filter.mpr ⟨List.mem_of_getElem? (i := 1138) (by decide +kernel), by decide +kernel⟩
theorem q_se_X9_set : Cond.selects RX9 yX9_set yX9_set ∈ gLW := List.mem_filter.mpr ⟨List.mem_of_getElem? (i := 1139) (by decide +kernel), by decide +kernel⟩
theorem q_co_X9_set : Cond.code yX9_set cX9_set 4 (some (Jvm.ClassFile.FieldType.int)) ∈ gLW := List.mem_filter.mpr ⟨List.mem_of_getElem? (i := 1140) (by decide +kernel), by decide +kernel⟩
theorem q_ml_X9_59 : Cond.methodLink RX9 59 yX9_isSetting ∈ gLW := List.mem_filter.mpr ⟨List.mem_of_getElem? (i := 1141) (by decide +kernel), by decide +kernel⟩
theorem q_st_X9_isSetting : Cond.static yX9_isSetting ∈ gLW := List.mem_filter.mpr ⟨List.mem_of_getElem? (i := 1142) (by decide +kernel), by decide +kernel⟩
theorem q_co_X9_isSetting : Cond.code yX9_isSetting cX9_isSetting 2 (some (Jvm.ClassFile.FieldType.boolean)) ∈ gLW := List.mem_filter.mpr ⟨List.mem_of_getElem? (i := 1143) (by decide +kernel), by decide +kernel⟩
theorem q_ml_X9_51 : Cond.methodLink RX9 51 yX9_in ∈ gLW := List.mem_filter.mpr ⟨List.mem_of_getElem? (i := 1144) (by decide +kernel), by decide +kernel⟩
theorem q_st_X9_in : Cond.static yX9_in ∈ gLW := List.mem_filter.mpr ⟨List.mem_of_getElem? (i := 1145) (by decide +kernel), by decide +kernel⟩
theorem q_co_X9_in : Cond.code yX9_in cX9_in 3 (some (Jvm.ClassFile.FieldType.boolean)) ∈ gLW := List.mem_filter.mpr ⟨List.mem_of_getElem? (i := 1146) (by decide +kernel), by decide +kernel⟩
theorem q_ml_X9_63 : Cond.methodLink RX9 63 yX9_fails ∈ gLW := List.mem_filter.mpr ⟨List.mem_of_getElem? (i := 1147) (by decide +kernel), by decide +kernel⟩
theorem q_im_X9_fails : Cond.instanceMethod yX9_fails ∈ gLW := List.mem_filter.mpr ⟨List.mem_of_getElem? (i := 1149) (by decide +kernel), by decide +kernel⟩
theorem q_co_X9_fails : Cond.code yX9_fails cX9_fails 2 (some (Jvm.ClassFile.FieldType.int)) ∈ gLW := List.mem_filter.mpr ⟨List.mem_of_getElem? (i := 1150) (by decide +kernel), by decide +kernel⟩
theorem q_ml_X9_66 : Cond.methodLink RX9 66 yX9_hold ∈ gLW := List.mem_filter.mpr ⟨List.mem_of_getElem? (i := 1151) (by decide +kernel), by decide +kernel⟩
theorem q_im_X9_hold : Cond.instanceMethod yX9_hold ∈ gLW := List.mem_filter.mpr ⟨List.mem_of_getElem? (i := 1153) (by decide +kernel), by decide +kernel⟩
theorem q_co_X9_hold : Cond.code yX9_hold cX9_hold 2 none ∈ gLW := List.mem_filter.mpr ⟨List.mem_of_getElem? (i := 1154) (by decide +kernel), by decide +kernel⟩
theorem q_ml_X9_69 : Cond.methodLink RX9 69 yX9_ends ∈ gLW := List.mem_filter.mpr ⟨List.mem_of_getElem? (i := 1155) (by decide +kernel), by decide +kernel⟩
theorem q_im_X9_ends : Cond.instanceMethod yX9_ends ∈ gLW := List.mem_filter.mpr ⟨List.mem_of_getElem? (i := 1157) (by decide +kernel), by decide +kernel⟩
theorem q_co_X9_ends : Cond.code yX9_ends cX9_ends 3 (some (Jvm.ClassFile.FieldType.int)) ∈ gLW := List.mem_filter.mpr ⟨List.mem_of_getElem? (i := 1158) (by decide +kernel), by decide +kernel⟩
theorem q_ml_X9_47 : Cond.methodLink RX9 47 yX9_tells ∈ gLW := List.mem_filter.mpr ⟨List.mem_of_getElem? (i := 1159) (by decide +kernel), by decide +kernel⟩
theorem q_im_X9_tells : Cond.instanceMethod yX9_tells ∈ gLW := List.mem_filter.mpr ⟨List.mem_of_getElem? (i := 1161) (by decide +kernel), by decide +kernel⟩
theorem q_co_X9_tells : Cond.code yX9_tells cX9_tells 2 (some (Jvm.ClassFile.FieldType.int)) ∈ gLW := List.mem_filter.mpr ⟨List.mem_of_getElem? (i := 1162) (by decide +kernel), by decide +kernel⟩
theorem q_ml_L_92 : Cond.methodLink RL 92 yX9_value ∈ gLW := List.mem_filter.mpr ⟨List.mem_of_getElem? (i := 1163) (by decide +kernel), by decide +kernel⟩
theorem q_im_X9_value : Cond.instanceMethod yX9_value ∈ gLW := List.mem_filter.mpr ⟨List.mem_of_getElem? (i := 1164) (by decide +kernel), by decide +kernel⟩
theorem q_se_X9_value : Cond.selects RX9 yX9_value yX9_value ∈ gLW := List.mem_filter.mpr ⟨List.mem_of_getElem? (i := 1165) (by decide +kernel), by decide +kernel⟩
theorem q_co_X9_value : Cond.code yX9_value cX9_value 2 (some (Jvm.ClassFile.FieldType.int)) ∈ gLW := List.mem_filter.mpr ⟨List.mem_of_getElem? (i := 1166) (by decide +kernel), by decide +kernel⟩
theorem q_ml_X9_72 : Cond.methodLink RX9 72 yX9_valueOf ∈ gLW := List.mem_filter.mpr ⟨List.mem_of_getElem? (i := 1167) (by decide +kernel), by decide +kernel⟩
theorem q_im_X9_valueOf : Cond.instanceMethod yX9_valueOf ∈ gLW := List.mem_filter.mpr ⟨List.mem_of_getElem? (i := 1169) (by decide +kernel), by decide +kernel⟩
theorem q_co_X9_valueOf : Cond.code yX9_valueOf cX9_valueOf 2 (some (Jvm.ClassFile.FieldType.int)) ∈ gLW := List.mem_filter.mpr ⟨List.mem_of_getElem? (i := 1170) (by decide +kernel), by decide +kernel⟩
theorem q_ml_L_96 : Cond.methodLink RL 96 yX9_addTask ∈ gLW := List.mem_filter.mpr ⟨List.mem_of_getElem? (i := 1171) (by decide +kernel), by decide +kernel⟩
theorem q_im_X9_addTask : Cond.instanceMethod yX9_addTask ∈ gLW := List.mem_filter.mpr ⟨List.mem_of_getElem? (i := 1172) (by decide +kernel), by decide +kernel⟩
theorem q_se_X9_addTask : Cond.selects RX9 yX9_addTask yX9_addTask ∈ gLW := List.mem_filter.mpr ⟨List.mem_of_getElem? (i := 1173) (by decide +kernel), by decide +kernel⟩
theorem q_co_X9_addTask : Cond.code yX9_addTask cX9_addTask 4 (some (Jvm.ClassFile.FieldType.int)) ∈ gLW := List.mem_filter.mpr ⟨List.mem_of_getElem? (i := 1174) (by decide +kernel), by decide +kernel⟩
theorem q_ml_X9_75 : Cond.methodLink RX9 75 yX9_isBar ∈ gLW := List.mem_filter.mpr ⟨List.mem_of_getElem? (i := 1175) (by decide +kernel), by decide +kernel⟩
theorem q_st_X9_isBar : Cond.static yX9_isBar ∈ gLW := List.mem_filter.mpr ⟨List.mem_of_getElem? (i := 1176) (by decide +kernel), by decide +kernel⟩
theorem q_co_X9_isBar : Cond.code yX9_isBar cX9_isBar 2 (some (Jvm.ClassFile.FieldType.boolean)) ∈ gLW := List.mem_filter.mpr ⟨List.mem_of_getElem? (i := 1177) (by decide +kernel), by decide +kernel⟩
theorem q_ml_X9_78 : Cond.methodLink RX9 78 yX9_comes ∈ gLW := List.mem_filter.mpr ⟨List.mem_of_getElem? (i := 1178) (by decide +kernel), by decide +kernel⟩
theorem q_im_X9_comes : Cond.instanceMethod yX9_comes ∈ gLW := List.mem_filter.mpr ⟨List.mem_of_getElem? (i := 1180) (by decide +kernel), by decide +kernel⟩
theorem q_co_X9_comes : Cond.code yX9_comes cX9_comes 5 none ∈ gLW := List.mem_filter.mpr ⟨List.mem_of_getElem? (i := 1181) (by decide +kernel), by decide +kernel⟩
theorem q_ml_L_99 : Cond.methodLink RL 99 yX9_move ∈ gLW := List.mem_filter.mpr ⟨List.mem_of_getElem? (i := 1182) (by decide +kernel), by decide +kernel⟩
theorem q_im_X9_move : Cond.instanceMethod yX9_move ∈ gLW := List.mem_filter.mpr ⟨List.mem_of_getElem? (i := 1183) (by decide +kernel), by decide +kernel⟩
theorem q_se_X9_move : Cond.selects RX9 yX9_move yX9_move ∈ gLW := List.mem_filter.mpr ⟨List.mem_of_getElem? (i := 1184) (by decide +kernel), by decide +kernel⟩
theorem q_co_X9_move : Cond.code yX9_move cX9_move 5 (some (Jvm.ClassFile.FieldType.int)) ∈ gLW := List.mem_filter.mpr ⟨List.mem_of_getElem? (i := 1185) (by decide +kernel), by decide +kernel⟩
theorem q_ml_X9_82 : Cond.methodLink RX9 82 yX9_isTask ∈ gLW := List.mem_filter.mpr ⟨List.mem_of_getElem? (i := 1186) (by decide +kernel), by decide +kernel⟩
theorem q_im_X9_isTask : Cond.instanceMethod yX9_isTask ∈ gLW := List.mem_filter.mpr ⟨List.mem_of_getElem? (i := 1188) (by decide +kernel), by decide +kernel⟩
theorem q_co_X9_isTask : Cond.code yX9_isTask cX9_isTask 2 (some (Jvm.ClassFile.FieldType.boolean)) ∈ gLW := List.mem_filter.mpr ⟨List.mem_of_getElem? (i := 1189) (by decide +kernel), by decide +kernel⟩
theorem q_ml_X9_55 : Cond.methodLink RX9 55 yX9_of ∈ gLW := List.mem_filter.mpr ⟨List.mem_of_getElem? (i := 1190) (by decide +kernel), by decide +kernel⟩
theorem q_im_X9_of : Cond.instanceMethod yX9_of ∈ gLW := List.mem_filter.mpr ⟨List.mem_of_getElem? (i := 1192) (by decide +kernel), by decide +kernel⟩
theorem q_co_X9_of : Cond.code yX9_of cX9_of 3 (some (Jvm.ClassFile.FieldType.int)) ∈ gLW := List.mem_filter.mpr ⟨List.mem_of_getElem? (i := 1193) (by decide +kernel), by decide +kernel⟩
theorem q_ml_L_102 : Cond.methodLink RL 102 yX9_removeTask ∈ gLW := List.mem_filter.mpr ⟨List.mem_of_getElem? (i := 1194) (by decide +kernel), by decide +kernel⟩
theorem q_im_X9_removeTask : Cond.instanceMethod yX9_removeTask ∈ gLW := List.mem_filter.mpr ⟨List.mem_of_getElem? (i := 1195) (by decide +kernel), by decide +kernel⟩
theorem q_se_X9_removeTask : Cond.selects RX9 yX9_removeTask yX9_removeTask ∈ gLW := List.mem_filter.mpr ⟨List.mem_of_getElem? (i := 1196) (by decide +kernel), by decide +kernel⟩
theorem q_co_X9_removeTask : Cond.code yX9_removeTask cX9_removeTask 4 (some (Jvm.ClassFile.FieldType.int)) ∈ gLW := List.mem_filter.mpr ⟨List.mem_of_getElem? (i := 1197) (by decide +kernel), by decide +kernel⟩
theorem q_ml_X9_86 : Cond.methodLink RX9 86 yX9_end ∈ gLW := List.mem_filter.mpr ⟨List.mem_of_getElem? (i := 1198) (by decide +kernel), by decide +kernel⟩
theorem q_im_X9_end : Cond.instanceMethod yX9_end ∈ gLW := List.mem_filter.mpr ⟨List.mem_of_getElem? (i := 1200) (by decide +kernel), by decide +kernel⟩
theorem q_co_X9_end : Cond.code yX9_end cX9_end 3 (some (Jvm.ClassFile.FieldType.int)) ∈ gLW := List.mem_filter.mpr ⟨List.mem_of_getElem? (i := 1201) (by decide +kernel), by decide +kernel⟩
theorem q_ml_X9_89 : Cond.methodLink RX9 89 yX9_arrowGoes ∈ gLW := List.mem_filter.mpr ⟨List.mem_of_getElem? (i := 1202) (by decide +kernel), by decide +kernel⟩
theorem q_im_X9_arrowGoes : Cond.instanceMethod yX9_arrowGoes ∈ gLW := List.mem_filter.mpr ⟨List.mem_of_getElem? (i := 1204) (by decide +kernel), by decide +kernel⟩
theorem q_co_X9_arrowGoes : Cond.code yX9_arrowGoes cX9_arrowGoes 3 none ∈ gLW := List.mem_filter.mpr ⟨List.mem_of_getElem? (i := 1205) (by decide +kernel), by decide +kernel⟩
theorem q_ml_L_105 : Cond.methodLink RL 105 yX9_addArrow ∈ gLW := List.mem_filter.mpr ⟨List.mem_of_getElem? (i := 1206) (by decide +kernel), by decide +kernel⟩
theorem q_im_X9_addArrow : Cond.instanceMethod yX9_addArrow ∈ gLW := List.mem_filter.mpr ⟨List.mem_of_getElem? (i := 1207) (by decide +kernel), by decide +kernel⟩
theorem q_se_X9_addArrow : Cond.selects RX9 yX9_addArrow yX9_addArrow ∈ gLW := List.mem_filter.mpr ⟨List.mem_of_getElem? (i := 1208) (by decide +kernel), by decide +kernel⟩
theorem q_co_X9_addArrow : Cond.code yX9_addArrow cX9_addArrow 3 (some (Jvm.ClassFile.FieldType.int)) ∈ gLW := List.mem_filter.mpr ⟨List.mem_of_getElem? (i := 1209) (by decide +kernel), by decide +kernel⟩
theorem q_ml_X9_93 : Cond.methodLink RX9 93 yX9_hasArrow ∈ gLW := List.mem_filter.mpr ⟨List.mem_of_getElem? (i := 1210) (by decide +kernel), by decide +kernel⟩
theorem q_im_X9_hasArrow : Cond.instanceMethod yX9_hasArrow ∈ gLW := List.mem_filter.mpr ⟨List.mem_of_getElem? (i := 1212) (by decide +kernel), by decide +kernel⟩
theorem q_co_X9_hasArrow : Cond.code yX9_hasArrow cX9_hasArrow 5 (some (Jvm.ClassFile.FieldType.boolean)) ∈ gLW := List.mem_filter.mpr ⟨List.mem_of_getElem? (i := 1213) (by decide +kernel), by decide +kernel⟩
theorem q_ml_X9_96 : Cond.methodLink RX9 96 yX9_arrowComes ∈ gLW := List.mem_filter.mpr ⟨List.mem_of_getElem? (i := 1214) (by decide +kernel), by decide +kernel⟩
theorem q_im_X9_arrowComes : Cond.instanceMethod yX9_arrowComes ∈ gLW := List.mem_filter.mpr ⟨List.mem_of_getElem? (i := 1216) (by decide +kernel), by decide +kernel⟩
theorem q_co_X9_arrowComes : Cond.code yX9_arrowComes cX9_arrowComes 3 none ∈ gLW := List.mem_filter.mpr ⟨List.mem_of_getElem? (i := 1217) (by decide +kernel), by decide +kernel⟩
theorem q_ml_L_108 : Cond.methodLink RL 108 yX9_removeArrow ∈ gLW := List.mem_filter.mpr ⟨List.mem_of_getElem? (i := 1218) (by decide +kernel), by decide +kernel⟩
theorem q_im_X9_removeArrow : Cond.instanceMethod yX9_removeArrow ∈ gLW := List.mem_filter.mpr ⟨List.mem_of_getElem? (i := 1219) (by decide +kernel), by decide +kernel⟩
theorem q_se_X9_removeArrow : Cond.selects RX9 yX9_removeArrow yX9_removeArrow ∈ gLW := List.mem_filter.mpr ⟨List.mem_of_getElem? (i := 1220) (by decide +kernel), by decide +kernel⟩
theorem q_co_X9_removeArrow : Cond.code yX9_removeArrow cX9_removeArrow 2 (some (Jvm.ClassFile.FieldType.int)) ∈ gLW := List.mem_filter.mpr ⟨List.mem_of_getElem? (i := 1221) (by decide +kernel), by decide +kernel⟩
theorem q_ml_X9_100 : Cond.methodLink RX9 100 yX9_isArrow ∈ gLW := List.mem_filter.mpr ⟨List.mem_of_getElem? (i := 1222) (by decide +kernel), by decide +kernel⟩
theorem q_im_X9_isArrow : Cond.instanceMethod yX9_isArrow ∈ gLW := List.mem_filter.mpr ⟨List.mem_of_getElem? (i := 1224) (by decide +kernel), by decide +kernel⟩
theorem q_co_X9_isArrow : Cond.code yX9_isArrow cX9_isArrow 2 (some (Jvm.ClassFile.FieldType.boolean)) ∈ gLW := List.mem_filter.mpr ⟨List.mem_of_getElem? (i := 1225) (by decide +kernel), by decide +kernel⟩
theorem q_ml_L_111 : Cond.methodLink RL 111 yX9_task ∈ gLW := List.mem_filter.mpr ⟨List.mem_of_getElem? (i := 1226) (by decide +kernel), by decide +kernel⟩
theorem q_im_X9_task : Cond.instanceMethod yX9_task ∈ gLW := List.mem_filter.mpr ⟨List.mem_of_getElem? (i := 1227) (by decide +kernel), by decide +kernel⟩
theorem q_se_X9_task : Cond.selects RX9 yX9_task yX9_task ∈ gLW := List.mem_filter.mpr ⟨List.mem_of_getElem? (i := 1228) (by decide +kernel), by decide +kernel⟩
theorem q_co_X9_task : Cond.code yX9_task cX9_task 3 (some (Jvm.ClassFile.FieldType.int)) ∈ gLW := List.mem_filter.mpr ⟨List.mem_of_getElem? (i := 1229) (by decide +kernel), by decide +kernel⟩
theorem q_ml_X9_124 : Cond.methodLink RX9 124 yX9_bandsBy ∈ gLW := List.mem_filter.mpr ⟨List.mem_of_getElem? (i := 1230) (by decide +kernel), by decide +kernel⟩
theorem q_im_X9_bandsBy : Cond.instanceMethod yX9_bandsBy ∈ gLW := List.mem_filter.mpr ⟨List.mem_of_getElem? (i := 1232) (by decide +kernel), by decide +kernel⟩
theorem q_co_X9_bandsBy : Cond.code yX9_bandsBy cX9_bandsBy 3 none ∈ gLW := List.mem_filter.mpr ⟨List.mem_of_getElem? (i := 1233) (by decide +kernel), by decide +kernel⟩
theorem q_ml_X9_109 : Cond.methodLink RX9 109 yX9_sizeOf ∈ gLW := List.mem_filter.mpr ⟨List.mem_of_getElem? (i := 1234) (by decide +kernel), by decide +kernel⟩
theorem q_im_X9_sizeOf : Cond.instanceMethod yX9_sizeOf ∈ gLW := List.mem_filter.mpr ⟨List.mem_of_getElem? (i := 1236) (by decide +kernel), by decide +kernel⟩
theorem q_co_X9_sizeOf : Cond.code yX9_sizeOf cX9_sizeOf 4 (some (Jvm.ClassFile.FieldType.int)) ∈ gLW := List.mem_filter.mpr ⟨List.mem_of_getElem? (i := 1237) (by decide +kernel), by decide +kernel⟩
theorem q_ml_X9_121 : Cond.methodLink RX9 121 yX9_begins ∈ gLW := List.mem_filter.mpr ⟨List.mem_of_getElem? (i := 1238) (by decide +kernel), by decide +kernel⟩
theorem q_im_X9_begins : Cond.instanceMethod yX9_begins ∈ gLW := List.mem_filter.mpr ⟨List.mem_of_getElem? (i := 1240) (by decide +kernel), by decide +kernel⟩
theorem q_co_X9_begins : Cond.code yX9_begins cX9_begins 7 none ∈ gLW := List.mem_filter.mpr ⟨List.mem_of_getElem? (i := 1241) (by decide +kernel), by decide +kernel⟩
theorem q_ml_X9_112 : Cond.methodLink RX9 112 yX9_newBand ∈ gLW := List.mem_filter.mpr ⟨List.mem_of_getElem? (i := 1242) (by decide +kernel), by decide +kernel⟩
theorem q_im_X9_newBand : Cond.instanceMethod yX9_newBand ∈ gLW := List.mem_filter.mpr ⟨List.mem_of_getElem? (i := 1244) (by decide +kernel), by decide +kernel⟩
theorem q_co_X9_newBand : Cond.code yX9_newBand cX9_newBand 2 none ∈ gLW := List.mem_filter.mpr ⟨List.mem_of_getElem? (i := 1245) (by decide +kernel), by decide +kernel⟩
theorem q_ml_X9_115 : Cond.methodLink RX9 115 yX9_takesRow ∈ gLW := List.mem_filter.mpr ⟨List.mem_of_getElem? (i := 1246) (by decide +kernel), by decide +kernel⟩
theorem q_im_X9_takesRow : Cond.instanceMethod yX9_takesRow ∈ gLW := List.mem_filter.mpr ⟨List.mem_of_getElem? (i := 1248) (by decide +kernel), by decide +kernel⟩
theorem q_co_X9_takesRow : Cond.code yX9_takesRow cX9_takesRow 2 none ∈ gLW := List.mem_filter.mpr ⟨List.mem_of_getElem? (i := 1249) (by decide +kernel), by decide +kernel⟩
theorem q_ml_X9_118 : Cond.methodLink RX9 118 yX9_next ∈ gLW := List.mem_filter.mpr ⟨List.mem_of_getElem? (i := 1250) (by decide +kernel), by decide +kernel⟩
theorem q_im_X9_next : Cond.instanceMethod yX9_next ∈ gLW := List.mem_filter.mpr ⟨List.mem_of_getElem? (i := 1252) (by decide +kernel), by decide +kernel⟩
theorem q_co_X9_next : Cond.code yX9_next cX9_next 6 (some (Jvm.ClassFile.FieldType.int)) ∈ gLW := List.mem_filter.mpr ⟨List.mem_of_getElem? (i := 1253) (by decide +kernel), by decide +kernel⟩
theorem q_ml_X9_152 : Cond.methodLink RX9 152 yX9_taskTold ∈ gLW := List.mem_filter.mpr ⟨List.mem_of_getElem? (i := 1254) (by decide +kernel), by decide +kernel⟩
theorem q_im_X9_taskTold : Cond.instanceMethod yX9_taskTold ∈ gLW := List.mem_filter.mpr ⟨List.mem_of_getElem? (i := 1256) (by decide +kernel), by decide +kernel⟩
theorem q_co_X9_taskTold : Cond.code yX9_taskTold cX9_taskTold 3 (some (Jvm.ClassFile.FieldType.int)) ∈ gLW := List.mem_filter.mpr ⟨List.mem_of_getElem? (i := 1257) (by decide +kernel), by decide +kernel⟩
theorem q_ml_X9_127 : Cond.methodLink RX9 127 yX9_lastDay ∈ gLW := List.mem_filter.mpr ⟨List.mem_of_getElem? (i := 1258) (by decide +kernel), by decide +kernel⟩
theorem q_im_X9_lastDay : Cond.instanceMethod yX9_lastDay ∈ gLW := List.mem_filter.mpr ⟨List.mem_of_getElem? (i := 1260) (by decide +kernel), by decide +kernel⟩
theorem q_co_X9_lastDay : Cond.code yX9_lastDay cX9_lastDay 2 (some (Jvm.ClassFile.FieldType.int)) ∈ gLW := List.mem_filter.mpr ⟨List.mem_of_getElem? (i := 1261) (by decide +kernel), by decide +kernel⟩
theorem q_ml_X9_149 : Cond.methodLink RX9 149 yX9_partsOf ∈ gLW := List.mem_filter.mpr ⟨List.mem_of_getElem? (i := 1262) (by decide +kernel), by decide +kernel⟩
theorem q_im_X9_partsOf : Cond.instanceMethod yX9_partsOf ∈ gLW := List.mem_filter.mpr ⟨List.mem_of_getElem? (i := 1264) (by decide +kernel), by decide +kernel⟩
theorem q_co_X9_partsOf : Cond.code yX9_partsOf cX9_partsOf 2 (some (Jvm.ClassFile.FieldType.int)) ∈ gLW := List.mem_filter.mpr ⟨List.mem_of_getElem? (i := 1265) (by decide +kernel), by decide +kernel⟩
theorem q_ml_L_115 : Cond.methodLink RL 115 yX9_bands ∈ gLW := List.mem_filter.mpr ⟨List.mem_of_getElem? (i := 1266) (by decide +kernel), by decide +kernel⟩
theorem q_im_X9_bands : Cond.instanceMethod yX9_bands ∈ gLW := List.mem_filter.mpr ⟨List.mem_of_getElem? (i := 1267) (by decide +kernel), by decide +kernel⟩
theorem q_se_X9_bands : Cond.selects RX9 yX9_bands yX9_bands ∈ gLW := List.mem_filter.mpr ⟨List.mem_of_getElem? (i := 1268) (by decide +kernel), by decide +kernel⟩
theorem q_co_X9_bands : Cond.code yX9_bands cX9_bands 1 (some (Jvm.ClassFile.FieldType.int)) ∈ gLW := List.mem_filter.mpr ⟨List.mem_of_getElem? (i := 1269) (by decide +kernel), by decide +kernel⟩
theorem q_ml_L_118 : Cond.methodLink RL 118 yX9_row ∈ gLW := List.mem_filter.mpr ⟨List.mem_of_getElem? (i := 1270) (by decide +kernel), by decide +kernel⟩
theorem q_im_X9_row : Cond.instanceMethod yX9_row ∈ gLW := List.mem_filter.mpr ⟨List.mem_of_getElem? (i := 1271) (by decide +kernel), by decide +kernel⟩
theorem q_se_X9_row : Cond.selects RX9 yX9_row yX9_row ∈ gLW := List.mem_filter.mpr ⟨List.mem_of_getElem? (i := 1272) (by decide +kernel), by decide +kernel⟩
theorem q_co_X9_row : Cond.code yX9_row cX9_row 3 (some (Jvm.ClassFile.FieldType.int)) ∈ gLW := List.mem_filter.mpr ⟨List.mem_of_getElem? (i := 1273) (by decide +kernel), by decide +kernel⟩
theorem q_ml_L_122 : Cond.methodLink RL 122 yX9_sheets ∈ gLW := List.mem_filter.mpr ⟨List.mem_of_getElem? (i := 1274) (by decide +kernel), by decide +kernel⟩
theorem q_im_X9_sheets : Cond.instanceMethod yX9_sheets ∈ gLW := List.mem_filter.mpr ⟨List.mem_of_getElem? (i := 1275) (by decide +kernel), by decide +kernel⟩
theorem q_se_X9_sheets : Cond.selects RX9 yX9_sheets yX9_sheets ∈ gLW := List.mem_filter.mpr ⟨List.mem_of_getElem? (i := 1276) (by decide +kernel), by decide +kernel⟩
theorem q_co_X9_sheets : Cond.code yX9_sheets cX9_sheets 1 (some (Jvm.ClassFile.FieldType.int)) ∈ gLW := List.mem_filter.mpr ⟨List.mem_of_getElem? (i := 1277) (by decide +kernel), by decide +kernel⟩
theorem q_ml_X9_155 : Cond.methodLink RX9 155 yX9_prints ∈ gLW := List.mem_filter.mpr ⟨List.mem_of_getElem? (i := 1278) (by decide +kernel), by decide +kernel⟩
theorem q_im_X9_prints : Cond.instanceMethod yX9_prints ∈ gLW := List.mem_filter.mpr ⟨List.mem_of_getElem? (i := 1280) (by decide +kernel), by decide +kernel⟩
theorem q_co_X9_prints : Cond.code yX9_prints cX9_prints 1 none ∈ gLW := List.mem_filter.mpr ⟨List.mem_of_getElem? (i := 1281) (by decide +kernel), by decide +kernel⟩
theorem q_ml_X9_133 : Cond.methodLink RX9 133 yX9_printsBy ∈ gLW := List.mem_filter.mpr ⟨List.mem_of_getElem? (i := 1282) (by decide +kernel), by decide +kernel⟩
theorem q_im_X9_printsBy : Cond.instanceMethod yX9_printsBy ∈ gLW := List.mem_filter.mpr ⟨List.mem_of_getElem? (i := 1284) (by decide +kernel), by decide +kernel⟩
theorem q_co_X9_printsBy : Cond.code yX9_printsBy cX9_printsBy 5 none ∈ gLW := List.mem_filter.mpr ⟨List.mem_of_getElem? (i := 1285) (by decide +kernel), by decide +kernel⟩
theorem q_ml_L_125 : Cond.methodLink RL 125 yX9_sheet ∈ gLW := List.mem_filter.mpr ⟨List.mem_of_getElem? (i := 1286) (by decide +kernel), by decide +kernel⟩
theorem q_im_X9_sheet : Cond.instanceMethod yX9_sheet ∈ gLW := List.mem_filter.mpr ⟨List.mem_of_getElem? (i := 1287) (by decide +kernel), by decide +kernel⟩
theorem q_se_X9_sheet : Cond.selects RX9 yX9_sheet yX9_sheet ∈ gLW := List.mem_filter.mpr ⟨List.mem_of_getElem? (i := 1288) (by decide +kernel), by decide +kernel⟩
theorem q_co_X9_sheet : Cond.code yX9_sheet cX9_sheet 3 (some (Jvm.ClassFile.FieldType.int)) ∈ gLW := List.mem_filter.mpr ⟨List.mem_of_getElem? (i := 1289) (by decide +kernel), by decide +kernel⟩
theorem q_ml_X9_165 : Cond.methodLink RX9 165 yX9_sheetTold ∈ gLW := List.mem_filter.mpr ⟨List.mem_of_getElem? (i := 1290) (by decide +kernel), by decide +kernel⟩
theorem q_im_X9_sheetTold : Cond.instanceMethod yX9_sheetTold ∈ gLW := List.mem_filter.mpr ⟨List.mem_of_getElem? (i := 1292) (by decide +kernel), by decide +kernel⟩
theorem q_co_X9_sheetTold : Cond.code yX9_sheetTold cX9_sheetTold 3 (some (Jvm.ClassFile.FieldType.int)) ∈ gLW := List.mem_filter.mpr ⟨List.mem_of_getElem? (i := 1293) (by decide +kernel), by decide +kernel⟩
theorem q_ml_X9_158 : Cond.methodLink RX9 158 yX9_partsOn ∈ gLW := List.mem_filter.mpr ⟨List.mem_of_getElem? (i := 1294) (by decide +kernel), by decide +kernel⟩
theorem q_im_X9_partsOn : Cond.instanceMethod yX9_partsOn ∈ gLW := List.mem_filter.mpr ⟨List.mem_of_getElem? (i := 1296) (by decide +kernel), by decide +kernel⟩
theorem q_co_X9_partsOn : Cond.code yX9_partsOn cX9_partsOn 5 (some (Jvm.ClassFile.FieldType.int)) ∈ gLW := List.mem_filter.mpr ⟨List.mem_of_getElem? (i := 1297) (by decide +kernel), by decide +kernel⟩
theorem q_ml_X9_161 : Cond.methodLink RX9 161 yX9_arrowsOn ∈ gLW := List.mem_filter.mpr ⟨List.mem_of_getElem? (i := 1298) (by decide +kernel), by decide +kernel⟩
theorem q_im_X9_arrowsOn : Cond.instanceMethod yX9_arrowsOn ∈ gLW := List.mem_filter.mpr ⟨List.mem_of_getElem? (i := 1300) (by decide +kernel), by decide +kernel⟩
theorem q_co_X9_arrowsOn : Cond.code yX9_arrowsOn cX9_arrowsOn 6 (some (Jvm.ClassFile.FieldType.int)) ∈ gLW := List.mem_filter.mpr ⟨List.mem_of_getElem? (i := 1301) (by decide +kernel), by decide +kernel⟩
theorem q_ml_X9_140 : Cond.methodLink RX9 140 yX9_leaves ∈ gLW := List.mem_filter.mpr ⟨List.mem_of_getElem? (i := 1302) (by decide +kernel), by decide +kernel⟩
theorem q_im_X9_leaves : Cond.instanceMethod yX9_leaves ∈ gLW := List.mem_filter.mpr ⟨List.mem_of_getElem? (i := 1304) (by decide +kernel), by decide +kernel⟩
theorem q_co_X9_leaves : Cond.code yX9_leaves cX9_leaves 3 (some (Jvm.ClassFile.FieldType.int)) ∈ gLW := List.mem_filter.mpr ⟨List.mem_of_getElem? (i := 1305) (by decide +kernel), by decide +kernel⟩
theorem q_ml_X9_136 : Cond.methodLink RX9 136 yX9_sheetBy ∈ gLW := List.mem_filter.mpr ⟨List.mem_of_getElem? (i := 1306) (by decide +kernel), by decide +kernel⟩
theorem q_im_X9_sheetBy : Cond.instanceMethod yX9_sheetBy ∈ gLW := List.mem_filter.mpr ⟨List.mem_of_getElem? (i := 1308) (by decide +kernel), by decide +kernel⟩
theorem q_co_X9_sheetBy : Cond.code yX9_sheetBy cX9_sheetBy 4 (some (Jvm.ClassFile.FieldType.int)) ∈ gLW := List.mem_filter.mpr ⟨List.mem_of_getElem? (i := 1309) (by decide +kernel), by decide +kernel⟩
theorem q_ml_X9_143 : Cond.methodLink RX9 143 yX9_arrives ∈ gLW := List.mem_filter.mpr ⟨List.mem_of_getElem? (i := 1310) (by decide +kernel), by decide +kernel⟩
theorem q_im_X9_arrives : Cond.instanceMethod yX9_arrives ∈ gLW := List.mem_filter.mpr ⟨List.mem_of_getElem? (i := 1312) (by decide +kernel), by decide +kernel⟩
theorem q_co_X9_arrives : Cond.code yX9_arrives cX9_arrives 3 (some (Jvm.ClassFile.FieldType.int)) ∈ gLW := List.mem_filter.mpr ⟨List.mem_of_getElem? (i := 1313) (by decide +kernel), by decide +kernel⟩
theorem q_ml_X9_146 : Cond.methodLink RX9 146 yX9_isExit ∈ gLW := List.mem_filter.mpr ⟨List.mem_of_getElem? (i := 1314) (by decide +kernel), by decide +kernel⟩
theorem q_im_X9_isExit : Cond.instanceMethod yX9_isExit ∈ gLW := List.mem_filter.mpr ⟨List.mem_of_getElem? (i := 1316) (by decide +kernel), by decide +kernel⟩
theorem q_co_X9_isExit : Cond.code yX9_isExit cX9_isExit 3 (some (Jvm.ClassFile.FieldType.boolean)) ∈ gLW := List.mem_filter.mpr ⟨List.mem_of_getElem? (i := 1317) (by decide +kernel), by decide +kernel⟩
theorem q_ml_L_128 : Cond.methodLink RL 128 yX9_sheetAt ∈ gLW := List.mem_filter.mpr ⟨List.mem_of_getElem? (i := 1318) (by decide +kernel), by decide +kernel⟩
theorem q_im_X9_sheetAt : Cond.instanceMethod yX9_sheetAt ∈ gLW := List.mem_filter.mpr ⟨List.mem_of_getElem? (i := 1319) (by decide +kernel), by decide +kernel⟩
theorem q_se_X9_sheetAt : Cond.selects RX9 yX9_sheetAt yX9_sheetAt ∈ gLW := List.mem_filter.mpr ⟨List.mem_of_getElem? (i := 1320) (by decide +kernel), by decide +kernel⟩
theorem q_co_X9_sheetAt : Cond.code yX9_sheetAt cX9_sheetAt 3 (some (Jvm.ClassFile.FieldType.int)) ∈ gLW := List.mem_filter.mpr ⟨List.mem_of_getElem? (i := 1321) (by decide +kernel), by decide +kernel⟩
theorem q_ml_L_131 : Cond.methodLink RL 131 yX9_part ∈ gLW := List.mem_filter.mpr ⟨List.mem_of_getElem? (i := 1322) (by decide +kernel), by decide +kernel⟩
theorem q_im_X9_part : Cond.instanceMethod yX9_part ∈ gLW := List.mem_filter.mpr ⟨List.mem_of_getElem? (i := 1323) (by decide +kernel), by decide +kernel⟩
theorem q_se_X9_part : Cond.selects RX9 yX9_part yX9_part ∈ gLW := List.mem_filter.mpr ⟨List.mem_of_getElem? (i := 1324) (by decide +kernel), by decide +kernel⟩
theorem q_co_X9_part : Cond.code yX9_part cX9_part 8 (some (Jvm.ClassFile.FieldType.int)) ∈ gLW := List.mem_filter.mpr ⟨List.mem_of_getElem? (i := 1325) (by decide +kernel), by decide +kernel⟩
theorem q_ml_L_134 : Cond.methodLink RL 134 yX9_arrow ∈ gLW := List.mem_filter.mpr ⟨List.mem_of_getElem? (i := 1326) (by decide +kernel), by decide +kernel⟩
theorem q_im_X9_arrow : Cond.instanceMethod yX9_arrow ∈ gLW := List.mem_filter.mpr ⟨List.mem_of_getElem? (i := 1327) (by decide +kernel), by decide +kernel⟩
theorem q_se_X9_arrow : Cond.selects RX9 yX9_arrow yX9_arrow ∈ gLW := List.mem_filter.mpr ⟨List.mem_of_getElem? (i := 1328) (by decide +kernel), by decide +kernel⟩
theorem q_co_X9_arrow : Cond.code yX9_arrow cX9_arrow 3 (some (Jvm.ClassFile.FieldType.int)) ∈ gLW := List.mem_filter.mpr ⟨List.mem_of_getElem? (i := 1329) (by decide +kernel), by decide +kernel⟩
theorem q_ml_X9_174 : Cond.methodLink RX9 174 yX9_arrowTold ∈ gLW := List.mem_filter.mpr ⟨List.mem_of_getElem? (i := 1330) (by decide +kernel), by decide +kernel⟩
theorem q_im_X9_arrowTold : Cond.instanceMethod yX9_arrowTold ∈ gLW := List.mem_filter.mpr ⟨List.mem_of_getElem? (i := 1332) (by decide +kernel), by decide +kernel⟩
theorem q_co_X9_arrowTold : Cond.code yX9_arrowTold cX9_arrowTold 3 (some (Jvm.ClassFile.FieldType.int)) ∈ gLW := List.mem_filter.mpr ⟨List.mem_of_getElem? (i := 1333) (by decide +kernel), by decide +kernel⟩
theorem q_ml_X9_168 : Cond.methodLink RX9 168 yX9_exitOf ∈ gLW := List.mem_filter.mpr ⟨List.mem_of_getElem? (i := 1334) (by decide +kernel), by decide +kernel⟩
theorem q_im_X9_exitOf : Cond.instanceMethod yX9_exitOf ∈ gLW := List.mem_filter.mpr ⟨List.mem_of_getElem? (i := 1336) (by decide +kernel), by decide +kernel⟩
theorem q_co_X9_exitOf : Cond.code yX9_exitOf cX9_exitOf 4 (some (Jvm.ClassFile.FieldType.int)) ∈ gLW := List.mem_filter.mpr ⟨List.mem_of_getElem? (i := 1337) (by decide +kernel), by decide +kernel⟩
theorem q_ml_X9_171 : Cond.methodLink RX9 171 yX9_isLate ∈ gLW := List.mem_filter.mpr ⟨List.mem_of_getElem? (i := 1338) (by decide +kernel), by decide +kernel⟩
theorem q_im_X9_isLate : Cond.instanceMethod yX9_isLate ∈ gLW := List.mem_filter.mpr ⟨List.mem_of_getElem? (i := 1340) (by decide +kernel), by decide +kernel⟩
theorem q_co_X9_isLate : Cond.code yX9_isLate cX9_isLate 2 (some (Jvm.ClassFile.FieldType.boolean)) ∈ gLW := List.mem_filter.mpr ⟨List.mem_of_getElem? (i := 1341) (by decide +kernel), by decide +kernel⟩
theorem q_ml_L_137 : Cond.methodLink RL 137 yX9_arrowOf ∈ gLW := List.mem_filter.mpr ⟨List.mem_of_getElem? (i := 1342) (by decide +kernel), by decide +kernel⟩
theorem q_im_X9_arrowOf : Cond.instanceMethod yX9_arrowOf ∈ gLW := List.mem_filter.mpr ⟨List.mem_of_getElem? (i := 1343) (by decide +kernel), by decide +kernel⟩
theorem q_se_X9_arrowOf : Cond.selects RX9 yX9_arrowOf yX9_arrowOf ∈ gLW := List.mem_filter.mpr ⟨List.mem_of_getElem? (i := 1344) (by decide +kernel), by decide +kernel⟩
theorem q_co_X9_arrowOf : Cond.code yX9_arrowOf cX9_arrowOf 3 (some (Jvm.ClassFile.FieldType.int)) ∈ gLW := List.mem_filter.mpr ⟨List.mem_of_getElem? (i := 1345) (by decide +kernel), by decide +kernel⟩
theorem q_ml_L_140 : Cond.methodLink RL 140 yX9_taskAt ∈ gLW := List.mem_filter.mpr ⟨List.mem_of_getElem? (i := 1346) (by decide +kernel), by decide +kernel⟩
theorem q_im_X9_taskAt : Cond.instanceMethod yX9_taskAt ∈ gLW := List.mem_filter.mpr ⟨List.mem_of_getElem? (i := 1347) (by decide +kernel), by decide +kernel⟩
theorem q_se_X9_taskAt : Cond.selects RX9 yX9_taskAt yX9_taskAt ∈ gLW := List.mem_filter.mpr ⟨List.mem_of_getElem? (i := 1348) (by decide +kernel), by decide +kernel⟩
theorem q_co_X9_taskAt : Cond.code yX9_taskAt cX9_taskAt 7 (some (Jvm.ClassFile.FieldType.int)) ∈ gLW := List.mem_filter.mpr ⟨List.mem_of_getElem? (i := 1349) (by decide +kernel), by decide +kernel⟩
theorem q_ml_L_145 : Cond.methodLink RL 145 yX9_covered ∈ gLW := List.mem_filter.mpr ⟨List.mem_of_getElem? (i := 1350) (by decide +kernel), by decide +kernel⟩
theorem q_im_X9_covered : Cond.instanceMethod yX9_covered ∈ gLW := List.mem_filter.mpr ⟨List.mem_of_getElem? (i := 1351) (by decide +kernel), by decide +kernel⟩
theorem q_se_X9_covered : Cond.selects RX9 yX9_covered yX9_covered ∈ gLW := List.mem_filter.mpr ⟨List.mem_of_getElem? (i := 1352) (by decide +kernel), by decide +kernel⟩
theorem q_co_X9_covered : Cond.code yX9_covered cX9_covered 3 (some (Jvm.ClassFile.FieldType.double)) ∈ gLW := List.mem_filter.mpr ⟨List.mem_of_getElem? (i := 1353) (by decide +kernel), by decide +kernel⟩
theorem q_ml_L_148 : Cond.methodLink RL 148 yX9_sheetsWith ∈ gLW := List.mem_filter.mpr ⟨List.mem_of_getElem? (i := 1354) (by decide +kernel), by decide +kernel⟩
theorem q_im_X9_sheetsWith : Cond.instanceMethod yX9_sheetsWith ∈ gLW := List.mem_filter.mpr ⟨List.mem_of_getElem? (i := 1355) (by decide +kernel), by decide +kernel⟩
theorem q_se_X9_sheetsWith : Cond.selects RX9 yX9_sheetsWith yX9_sheetsWith ∈ gLW := List.mem_filter.mpr ⟨List.mem_of_getElem? (i := 1356) (by decide +kernel), by decide +kernel⟩
theorem q_co_X9_sheetsWith : Cond.code yX9_sheetsWith cX9_sheetsWith 3 (some (Jvm.ClassFile.FieldType.int)) ∈ gLW := List.mem_filter.mpr ⟨List.mem_of_getElem? (i := 1357) (by decide +kernel), by decide +kernel⟩
theorem q_ml_L_152 : Cond.methodLink RL 152 yX9_fewestExits ∈ gLW := List.mem_filter.mpr ⟨List.mem_of_getElem? (i := 1358) (by decide +kernel), by decide +kernel⟩
theorem q_im_X9_fewestExits : Cond.instanceMethod yX9_fewestExits ∈ gLW := List.mem_filter.mpr ⟨List.mem_of_getElem? (i := 1359) (by decide +kernel), by decide +kernel⟩
theorem q_se_X9_fewestExits : Cond.selects RX9 yX9_fewestExits yX9_fewestExits ∈ gLW := List.mem_filter.mpr ⟨List.mem_of_getElem? (i := 1360) (by decide +kernel), by decide +kernel⟩
theorem q_co_X9_fewestExits : Cond.code yX9_fewestExits cX9_fewestExits 6 (some (Jvm.ClassFile.FieldType.int)) ∈ gLW := List.mem_filter.mpr ⟨List.mem_of_getElem? (i := 1361) (by decide +kernel), by decide +kernel⟩
theorem q_ml_L_155 : Cond.methodLink RL 155 yX9_delay ∈ gLW := List.mem_filter.mpr ⟨List.mem_of_getElem? (i := 1362) (by decide +kernel), by decide +kernel⟩
theorem q_im_X9_delay : Cond.instanceMethod yX9_delay ∈ gLW := List.mem_filter.mpr ⟨List.mem_of_getElem? (i := 1363) (by decide +kernel), by decide +kernel⟩
theorem q_se_X9_delay : Cond.selects RX9 yX9_delay yX9_delay ∈ gLW := List.mem_filter.mpr ⟨List.mem_of_getElem? (i := 1364) (by decide +kernel), by decide +kernel⟩
theorem q_co_X9_delay : Cond.code yX9_delay cX9_delay 5 (some (Jvm.ClassFile.FieldType.int)) ∈ gLW := List.mem_filter.mpr ⟨List.mem_of_getElem? (i := 1365) (by decide +kernel), by decide +kernel⟩
theorem q_ml_L_159 : Cond.methodLink RL 159 yX9_longestChain ∈ gLW := List.mem_filter.mpr ⟨List.mem_of_getElem? (i := 1366) (by decide +kernel), by decide +kernel⟩
theorem q_im_X9_longestChain : Cond.instanceMethod yX9_longestChain ∈ gLW := List.mem_filter.mpr ⟨List.mem_of_getElem? (i := 1367) (by decide +kernel), by decide +kernel⟩
theorem q_se_X9_longestChain : Cond.selects RX9 yX9_longestChain yX9_longestChain ∈ gLW := List.mem_filter.mpr ⟨List.mem_of_getElem? (i := 1368) (by decide +kernel), by decide +kernel⟩
theorem q_co_X9_longestChain : Cond.code yX9_longestChain cX9_longestChain 1 (some (Jvm.ClassFile.FieldType.int)) ∈ gLW := List.mem_filter.mpr ⟨List.mem_of_getElem? (i := 1369) (by decide +kernel), by decide +kernel⟩
theorem q_ml_X9_177 : Cond.methodLink RX9 177 yX9_longest ∈ gLW := List.mem_filter.mpr ⟨List.mem_of_getElem? (i := 1370) (by decide +kernel), by decide +kernel⟩
theorem q_im_X9_longest : Cond.instanceMethod yX9_longest ∈ gLW := List.mem_filter.mpr ⟨List.mem_of_getElem? (i := 1372) (by decide +kernel), by decide +kernel⟩
theorem q_co_X9_longest : Cond.code yX9_longest cX9_longest 4 (some (Jvm.ClassFile.FieldType.int)) ∈ gLW := List.mem_filter.mpr ⟨List.mem_of_getElem? (i := 1373) (by decide +kernel), by decide +kernel⟩
theorem q_ml_L_162 : Cond.methodLink RL 162 yX9_append ∈ gLW := List.mem_filter.mpr ⟨List.mem_of_getElem? (i := 1374) (by decide +kernel), by decide +kernel⟩
theorem q_im_X9_append : Cond.instanceMethod yX9_append ∈ gLW := List.mem_filter.mpr ⟨List.mem_of_getElem? (i := 1375) (by decide +kernel), by decide +kernel⟩
theorem q_se_X9_append : Cond.selects RX9 yX9_append yX9_append ∈ gLW := List.mem_filter.mpr ⟨List.mem_of_getElem? (i := 1376) (by decide +kernel), by decide +kernel⟩
theorem q_co_X9_append : Cond.code yX9_append cX9_append 2 (some (Jvm.ClassFile.FieldType.int)) ∈ gLW := List.mem_filter.mpr ⟨List.mem_of_getElem? (i := 1377) (by decide +kernel), by decide +kernel⟩
theorem q_ml_L_166 : Cond.methodLink RL 166 yX9_clearText ∈ gLW := List.mem_filter.mpr ⟨List.mem_of_getElem? (i := 1378) (by decide +kernel), by decide +kernel⟩
theorem q_im_X9_clearText : Cond.instanceMethod yX9_clearText ∈ gLW := List.mem_filter.mpr ⟨List.mem_of_getElem? (i := 1379) (by decide +kernel), by decide +kernel⟩
theorem q_se_X9_clearText : Cond.selects RX9 yX9_clearText yX9_clearText ∈ gLW := List.mem_filter.mpr ⟨List.mem_of_getElem? (i := 1380) (by decide +kernel), by decide +kernel⟩
theorem q_co_X9_clearText : Cond.code yX9_clearText cX9_clearText 2 (some (Jvm.ClassFile.FieldType.int)) ∈ gLW := List.mem_filter.mpr ⟨List.mem_of_getElem? (i := 1381) (by decide +kernel), by decide +kernel⟩
theorem q_ml_L_170 : Cond.methodLink RL 170 yX9_parse ∈ gLW := List.mem_filter.mpr ⟨List.mem_of_getElem? (i := 1382) (by decide +kernel), by decide +kernel⟩
theorem q_im_X9_parse : Cond.instanceMethod yX9_parse ∈ gLW := List.mem_filter.mpr ⟨List.mem_of_getElem? (i := 1383) (by decide +kernel), by decide +kernel⟩
theorem q_se_X9_parse : Cond.selects RX9 yX9_parse yX9_parse ∈ gLW := List.mem_filter.mpr ⟨List.mem_of_getElem? (i := 1384) (by decide +kernel), by decide +kernel⟩
theorem q_co_X9_parse : Cond.code yX9_parse cX9_parse 2 (some (Jvm.ClassFile.FieldType.int)) ∈ gLW := List.mem_filter.mpr ⟨List.mem_of_getElem? (i := 1385) (by decide +kernel), by decide +kernel⟩
theorem q_ml_X9_203 : Cond.methodLink RX9 203 yX9_isItem ∈ gLW := List.mem_filter.mpr ⟨List.mem_of_getElem? (i := 1386) (by decide +kernel), by decide +kernel⟩
theorem q_im_X9_isItem : Cond.instanceMethod yX9_isItem ∈ gLW := List.mem_filter.mpr ⟨List.mem_of_getElem? (i := 1388) (by decide +kernel), by decide +kernel⟩
theorem q_co_X9_isItem : Cond.code yX9_isItem cX9_isItem 3 (some (Jvm.ClassFile.FieldType.boolean)) ∈ gLW := List.mem_filter.mpr ⟨List.mem_of_getElem? (i := 1389) (by decide +kernel), by decide +kernel⟩
theorem q_ml_X9_187 : Cond.methodLink RX9 187 yX9_isAt ∈ gLW := List.mem_filter.mpr ⟨List.mem_of_getElem? (i := 1390) (by decide +kernel), by decide +kernel⟩
theorem q_im_X9_isAt : Cond.instanceMethod yX9_isAt ∈ gLW := List.mem_filter.mpr ⟨List.mem_of_getElem? (i := 1392) (by decide +kernel), by decide +kernel⟩
theorem q_co_X9_isAt : Cond.code yX9_isAt cX9_isAt 3 (some (Jvm.ClassFile.FieldType.boolean)) ∈ gLW := List.mem_filter.mpr ⟨List.mem_of_getElem? (i := 1393) (by decide +kernel), by decide +kernel⟩
theorem q_ml_X9_196 : Cond.methodLink RX9 196 yX9_takes ∈ gLW := List.mem_filter.mpr ⟨List.mem_of_getElem? (i := 1394) (by decide +kernel), by decide +kernel⟩
theorem q_im_X9_takes : Cond.instanceMethod yX9_takes ∈ gLW := List.mem_filter.mpr ⟨List.mem_of_getElem? (i := 1396) (by decide +kernel), by decide +kernel⟩
theorem q_co_X9_takes : Cond.code yX9_takes cX9_takes 3 (some (Jvm.ClassFile.FieldType.boolean)) ∈ gLW := List.mem_filter.mpr ⟨List.mem_of_getElem? (i := 1397) (by decide +kernel), by decide +kernel⟩
theorem q_ml_X9_199 : Cond.methodLink RX9 199 yX9_isWithin ∈ gLW := List.mem_filter.mpr ⟨List.mem_of_getElem? (i := 1398) (by decide +kernel), by decide +kernel⟩
theorem q_im_X9_isWithin : Cond.instanceMethod yX9_isWithin ∈ gLW := List.mem_filter.mpr ⟨List.mem_of_getElem? (i := 1400) (by decide +kernel), by decide +kernel⟩
theorem q_co_X9_isWithin : Cond.code yX9_isWithin cX9_isWithin 7 (some (Jvm.ClassFile.FieldType.boolean)) ∈ gLW := List.mem_filter.mpr ⟨List.mem_of_getElem? (i := 1401) (by decide +kernel), by decide +kernel⟩
theorem q_ml_X9_193 : Cond.methodLink RX9 193 yX9_isNumber ∈ gLW := List.mem_filter.mpr ⟨List.mem_of_getElem? (i := 1402) (by decide +kernel), by decide +kernel⟩
theorem q_im_X9_isNumber : Cond.instanceMethod yX9_isNumber ∈ gLW := List.mem_filter.mpr ⟨List.mem_of_getElem? (i := 1404) (by decide +kernel), by decide +kernel⟩
theorem q_co_X9_isNumber : Cond.code yX9_isNumber cX9_isNumber 3 (some (Jvm.ClassFile.FieldType.boolean)) ∈ gLW := List.mem_filter.mpr ⟨List.mem_of_getElem? (i := 1405) (by decide +kernel), by decide +kernel⟩
theorem q_ml_L_174 : Cond.methodLink RL 174 yX9_undo ∈ gLW := List.mem_filter.mpr ⟨List.mem_of_getElem? (i := 1406) (by decide +kernel), by decide +kernel⟩
theorem q_im_X9_undo : Cond.instanceMethod yX9_undo ∈ gLW := List.mem_filter.mpr ⟨List.mem_of_getElem? (i := 1407) (by decide +kernel), by decide +kernel⟩
theorem q_se_X9_undo : Cond.selects RX9 yX9_undo yX9_undo ∈ gLW := List.mem_filter.mpr ⟨List.mem_of_getElem? (i := 1408) (by decide +kernel), by decide +kernel⟩
theorem q_co_X9_undo : Cond.code yX9_undo cX9_undo 2 (some (Jvm.ClassFile.FieldType.int)) ∈ gLW := List.mem_filter.mpr ⟨List.mem_of_getElem? (i := 1409) (by decide +kernel), by decide +kernel⟩
theorem q_ml_L_179 : Cond.methodLink RL 179 yX9_digest ∈ gLW := List.mem_filter.mpr ⟨List.mem_of_getElem? (i := 1410) (by decide +kernel), by decide +kernel⟩
theorem q_im_X9_digest : Cond.instanceMethod yX9_digest ∈ gLW := List.mem_filter.mpr ⟨List.mem_of_getElem? (i := 1411) (by decide +kernel), by decide +kernel⟩
theorem q_se_X9_digest : Cond.selects RX9 yX9_digest yX9_digest ∈ gLW := List.mem_filter.mpr ⟨List.mem_of_getElem? (i := 1412) (by decide +kernel), by decide +kernel⟩
theorem q_co_X9_digest : Cond.code yX9_digest cX9_digest 3 (some (Jvm.ClassFile.FieldType.long)) ∈ gLW := List.mem_filter.mpr ⟨List.mem_of_getElem? (i := 1413) (by decide +kernel), by decide +kernel⟩
theorem q_kl_X9_213 : Cond.constantLong RX9 213 (3259 : Int64) ∈ gLW := List.mem_filter.mpr ⟨List.mem_of_getElem? (i := 1414) (by decide +kernel), by decide +kernel⟩
theorem q_ml_X9_215 : Cond.methodLink RX9 215 yX9_mix ∈ gLW := List.mem_filter.mpr ⟨List.mem_of_getElem? (i := 1415) (by decide +kernel), by decide +kernel⟩
theorem q_im_X9_mix : Cond.instanceMethod yX9_mix ∈ gLW := List.mem_filter.mpr ⟨List.mem_of_getElem? (i := 1417) (by decide +kernel), by decide +kernel⟩
theorem q_co_X9_mix : Cond.code yX9_mix cX9_mix 2 none ∈ gLW := List.mem_filter.mpr ⟨List.mem_of_getElem? (i := 1418) (by decide +kernel), by decide +kernel⟩
theorem q_kl_X9_207 : Cond.constantLong RX9 207 (31 : Int64) ∈ gLW := List.mem_filter.mpr ⟨List.mem_of_getElem? (i := 1419) (by decide +kernel), by decide +kernel⟩
theorem q_ac_long : Cond.arrayClass Jvm.ClassFile.FieldType.long ∈ gLW := List.mem_filter.mpr ⟨List.mem_of_getElem? (i := 1420) (by decide +kernel), by decide +kernel⟩
theorem q_ws_X0 : ∀ w ∈ u_ws RX0 TX0 8, w ∈ gLW := gLW_in [224, 226, 228, 230, 232, 234, 236, 238] (by decide +kernel) (by decide +kernel)
theorem q_ws_X1 : ∀ w ∈ u_ws RX1 TX1 1, w ∈ gLW := gLW_in [205] (by decide +kernel) (by decide +kernel)
theorem q_ws_X2 : ∀ w ∈ u_ws RX2 TX2 7, w ∈ gLW := gLW_in [280, 282, 284, 286, 288, 290, 292] (by decide +kernel) (by decide +kernel)
theorem q_ws_X3 : ∀ w ∈ u_ws RX3 TX3 3, w ∈ gLW := gLW_in [165, 167, 169] (by decide +kernel) (by decide +kernel)
theorem q_ws_X4 : ∀ w ∈ u_ws RX4 TX4 1, w ∈ gLW := gLW_in [118] (by decide +kernel) (by decide +kernel)
theorem q_ws_X5 : ∀ w ∈ u_ws RX5 TX5 8, w ∈ gLW := gLW_in [136, 138, 140, 142, 144, 146, 148, 150] (by decide +kernel) (by decide +kernel)
theorem q_ws_X6 : ∀ w ∈ u_ws RX6 TX6 5, w ∈ gLW := gLW_in [254, 256, 258, 260, 262] (by decide +kernel) (by decide +kernel)
theorem q_ws_X7 : ∀ w ∈ u_ws RX7 TX7 5, w ∈ gLW := gLW_in [185, 187, 189, 191, 193] (by decide +kernel) (by decide +kernel)
theorem q_ws_X8 : ∀ w ∈ u_ws RX8 TX8 10, w ∈ gLW := gLW_in [305, 307, 309, 311, 313, 315, 317, 319, 321, 323] (by decide +kernel) (by decide +kernel)
theorem q_ws_X9 : ∀ w ∈ u_ws RX9 TX9 19, w ∈ gLW := gLW_in [1094, 1096, 1098, 1100, 1102, 1104, 1106, 1108, 1110, 1112, 1114, 1116, 1118, 1120, 1122, 1124, 1126, 1128, 1130] (by decide +kernel) (by decide +kernel)
