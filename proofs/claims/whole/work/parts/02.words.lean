def okW (w : Cond) : Bool := match w with
  | .methodLinkNest .. => true
  | .arrayOver (.object _) => true
  | w => goodWord w
def bigW : List Cond := lw_tbl.filter okW
theorem se_X7_failWith : Cond.selects RX7 yX7_failWith yX7_failWith ∈ bigW := List.mem_filter.mpr ⟨List.mem_of_getElem? (i := 0) (by decide +kernel), rfl⟩
theorem se_X5_stateAfter : Cond.selects RX5 yX5_stateAfter yX5_stateAfter ∈ bigW := List.mem_filter.mpr ⟨List.mem_of_getElem? (i := 1) (by decide +kernel), rfl⟩
theorem se_X5_beginWord : Cond.selects RX5 yX5_beginWord yX5_beginWord ∈ bigW := List.mem_filter.mpr ⟨List.mem_of_getElem? (i := 2) (by decide +kernel), rfl⟩
theorem se_X5_takeKind : Cond.selects RX5 yX5_takeKind yX5_takeKind ∈ bigW := List.mem_filter.mpr ⟨List.mem_of_getElem? (i := 3) (by decide +kernel), rfl⟩
theorem se_X5_takeLetter : Cond.selects RX5 yX5_takeLetter yX5_takeLetter ∈ bigW := List.mem_filter.mpr ⟨List.mem_of_getElem? (i := 4) (by decide +kernel), rfl⟩
theorem se_X7_takeText : Cond.selects RX7 yX7_takeText yX7_takeText ∈ bigW := List.mem_filter.mpr ⟨List.mem_of_getElem? (i := 5) (by decide +kernel), rfl⟩
theorem se_X7_isWord : Cond.selects RX7 yX7_isWord yX7_isWord ∈ bigW := List.mem_filter.mpr ⟨List.mem_of_getElem? (i := 6) (by decide +kernel), rfl⟩
theorem se_X7_heardInTold : Cond.selects RX7 yX7_heardInTold yX7_heardInTold ∈ bigW := List.mem_filter.mpr ⟨List.mem_of_getElem? (i := 7) (by decide +kernel), rfl⟩
theorem se_X6_liesOver : Cond.selects RX6 yX6_liesOver yX6_liesOver ∈ bigW := List.mem_filter.mpr ⟨List.mem_of_getElem? (i := 8) (by decide +kernel), rfl⟩
theorem se_X7_renewNet : Cond.selects RX7 yX7_renewNet yX7_renewNet ∈ bigW := List.mem_filter.mpr ⟨List.mem_of_getElem? (i := 9) (by decide +kernel), rfl⟩
theorem se_X1_markStays : Cond.selects RX1 yX1_markStays yX1_markStays ∈ bigW := List.mem_filter.mpr ⟨List.mem_of_getElem? (i := 10) (by decide +kernel), rfl⟩
theorem se_X1_markBeginnings : Cond.selects RX1 yX1_markBeginnings yX1_markBeginnings ∈ bigW := List.mem_filter.mpr ⟨List.mem_of_getElem? (i := 11) (by decide +kernel), rfl⟩
theorem se_X1_layTrail : Cond.selects RX1 yX1_layTrail yX1_layTrail ∈ bigW := List.mem_filter.mpr ⟨List.mem_of_getElem? (i := 12) (by decide +kernel), rfl⟩
theorem se_X1_stayAt : Cond.selects RX1 yX1_stayAt yX1_stayAt ∈ bigW := List.mem_filter.mpr ⟨List.mem_of_getElem? (i := 13) (by decide +kernel), rfl⟩
theorem se_X2_find : Cond.selects RX2 yX2_find yX2_find ∈ bigW := List.mem_filter.mpr ⟨List.mem_of_getElem? (i := 14) (by decide +kernel), rfl⟩
theorem se_X2_pointAfter : Cond.selects RX2 yX2_pointAfter yX2_pointAfter ∈ bigW := List.mem_filter.mpr ⟨List.mem_of_getElem? (i := 15) (by decide +kernel), rfl⟩
theorem se_X2_layShortestRow : Cond.selects RX2 yX2_layShortestRow yX2_layShortestRow ∈ bigW := List.mem_filter.mpr ⟨List.mem_of_getElem? (i := 16) (by decide +kernel), rfl⟩
theorem se_X0_addUp : Cond.selects RX0 yX0_addUp yX0_addUp ∈ bigW := List.mem_filter.mpr ⟨List.mem_of_getElem? (i := 17) (by decide +kernel), rfl⟩
theorem se_X0_addLetter : Cond.selects RX0 yX0_addLetter yX0_addLetter ∈ bigW := List.mem_filter.mpr ⟨List.mem_of_getElem? (i := 18) (by decide +kernel), rfl⟩
theorem se_X1_silentlyReachedFrom : Cond.selects RX1 yX1_silentlyReachedFrom yX1_silentlyReachedFrom ∈ bigW := List.mem_filter.mpr ⟨List.mem_of_getElem? (i := 19) (by decide +kernel), rfl⟩
theorem se_X7_standsInEachForm : Cond.selects RX7 yX7_standsInEachForm yX7_standsInEachForm ∈ bigW := List.mem_filter.mpr ⟨List.mem_of_getElem? (i := 20) (by decide +kernel), rfl⟩
theorem se_X7_readingsAreSo : Cond.selects RX7 yX7_readingsAreSo yX7_readingsAreSo ∈ bigW := List.mem_filter.mpr ⟨List.mem_of_getElem? (i := 21) (by decide +kernel), rfl⟩
theorem se_X7_tellTurned : Cond.selects RX7 yX7_tellTurned yX7_tellTurned ∈ bigW := List.mem_filter.mpr ⟨List.mem_of_getElem? (i := 22) (by decide +kernel), rfl⟩
theorem se_X7_leaveTrace : Cond.selects RX7 yX7_leaveTrace yX7_leaveTrace ∈ bigW := List.mem_filter.mpr ⟨List.mem_of_getElem? (i := 23) (by decide +kernel), rfl⟩
theorem se_X7_tellBoth : Cond.selects RX7 yX7_tellBoth yX7_tellBoth ∈ bigW := List.mem_filter.mpr ⟨List.mem_of_getElem? (i := 24) (by decide +kernel), rfl⟩
theorem se_X7_tellPlain : Cond.selects RX7 yX7_tellPlain yX7_tellPlain ∈ bigW := List.mem_filter.mpr ⟨List.mem_of_getElem? (i := 25) (by decide +kernel), rfl⟩
theorem se_X7_standIn : Cond.selects RX7 yX7_standIn yX7_standIn ∈ bigW := List.mem_filter.mpr ⟨List.mem_of_getElem? (i := 26) (by decide +kernel), rfl⟩
theorem se_X8_against : Cond.selects RX8 yX8_against yX8_against ∈ bigW := List.mem_filter.mpr ⟨List.mem_of_getElem? (i := 27) (by decide +kernel), rfl⟩
theorem se_X8_fails : Cond.selects RX8 yX8_fails yX8_fails ∈ bigW := List.mem_filter.mpr ⟨List.mem_of_getElem? (i := 28) (by decide +kernel), rfl⟩
theorem se_X8_readAll : Cond.selects RX8 yX8_readAll yX8_readAll ∈ bigW := List.mem_filter.mpr ⟨List.mem_of_getElem? (i := 29) (by decide +kernel), rfl⟩
theorem se_X8_isSign : Cond.selects RX8 yX8_isSign yX8_isSign ∈ bigW := List.mem_filter.mpr ⟨List.mem_of_getElem? (i := 30) (by decide +kernel), rfl⟩
theorem se_X8_readWord : Cond.selects RX8 yX8_readWord yX8_readWord ∈ bigW := List.mem_filter.mpr ⟨List.mem_of_getElem? (i := 31) (by decide +kernel), rfl⟩
theorem se_X8_isWord : Cond.selects RX8 yX8_isWord yX8_isWord ∈ bigW := List.mem_filter.mpr ⟨List.mem_of_getElem? (i := 32) (by decide +kernel), rfl⟩
theorem se_X8_areForms : Cond.selects RX8 yX8_areForms yX8_areForms ∈ bigW := List.mem_filter.mpr ⟨List.mem_of_getElem? (i := 33) (by decide +kernel), rfl⟩
theorem se_X8_letterOf : Cond.selects RX8 yX8_letterOf yX8_letterOf ∈ bigW := List.mem_filter.mpr ⟨List.mem_of_getElem? (i := 34) (by decide +kernel), rfl⟩
theorem se_X8_lookAtSaid : Cond.selects RX8 yX8_lookAtSaid yX8_lookAtSaid ∈ bigW := List.mem_filter.mpr ⟨List.mem_of_getElem? (i := 35) (by decide +kernel), rfl⟩
theorem se_X8_timesHeard : Cond.selects RX8 yX8_timesHeard yX8_timesHeard ∈ bigW := List.mem_filter.mpr ⟨List.mem_of_getElem? (i := 36) (by decide +kernel), rfl⟩
theorem se_X8_isHeard : Cond.selects RX8 yX8_isHeard yX8_isHeard ∈ bigW := List.mem_filter.mpr ⟨List.mem_of_getElem? (i := 37) (by decide +kernel), rfl⟩
theorem se_X8_heardBehind : Cond.selects RX8 yX8_heardBehind yX8_heardBehind ∈ bigW := List.mem_filter.mpr ⟨List.mem_of_getElem? (i := 38) (by decide +kernel), rfl⟩
theorem se_X8_areLetters : Cond.selects RX8 yX8_areLetters yX8_areLetters ∈ bigW := List.mem_filter.mpr ⟨List.mem_of_getElem? (i := 39) (by decide +kernel), rfl⟩
theorem se_X8_lookAtCells : Cond.selects RX8 yX8_lookAtCells yX8_lookAtCells ∈ bigW := List.mem_filter.mpr ⟨List.mem_of_getElem? (i := 40) (by decide +kernel), rfl⟩
theorem se_X8_standing : Cond.selects RX8 yX8_standing yX8_standing ∈ bigW := List.mem_filter.mpr ⟨List.mem_of_getElem? (i := 41) (by decide +kernel), rfl⟩
theorem se_X8_allHeard : Cond.selects RX8 yX8_allHeard yX8_allHeard ∈ bigW := List.mem_filter.mpr ⟨List.mem_of_getElem? (i := 42) (by decide +kernel), rfl⟩
theorem se_X8_heardBy : Cond.selects RX8 yX8_heardBy yX8_heardBy ∈ bigW := List.mem_filter.mpr ⟨List.mem_of_getElem? (i := 43) (by decide +kernel), rfl⟩
theorem se_X8_findFar : Cond.selects RX8 yX8_findFar yX8_findFar ∈ bigW := List.mem_filter.mpr ⟨List.mem_of_getElem? (i := 44) (by decide +kernel), rfl⟩
theorem se_X8_findNext : Cond.selects RX8 yX8_findNext yX8_findNext ∈ bigW := List.mem_filter.mpr ⟨List.mem_of_getElem? (i := 45) (by decide +kernel), rfl⟩
theorem se_X8_endOf : Cond.selects RX8 yX8_endOf yX8_endOf ∈ bigW := List.mem_filter.mpr ⟨List.mem_of_getElem? (i := 46) (by decide +kernel), rfl⟩
theorem se_X8_allWords : Cond.selects RX8 yX8_allWords yX8_allWords ∈ bigW := List.mem_filter.mpr ⟨List.mem_of_getElem? (i := 47) (by decide +kernel), rfl⟩
theorem se_X8_behindLetter : Cond.selects RX8 yX8_behindLetter yX8_behindLetter ∈ bigW := List.mem_filter.mpr ⟨List.mem_of_getElem? (i := 48) (by decide +kernel), rfl⟩
theorem se_X8_findWays : Cond.selects RX8 yX8_findWays yX8_findWays ∈ bigW := List.mem_filter.mpr ⟨List.mem_of_getElem? (i := 49) (by decide +kernel), rfl⟩
theorem se_X8_waysWith : Cond.selects RX8 yX8_waysWith yX8_waysWith ∈ bigW := List.mem_filter.mpr ⟨List.mem_of_getElem? (i := 50) (by decide +kernel), rfl⟩
theorem se_X8_goesFree : Cond.selects RX8 yX8_goesFree yX8_goesFree ∈ bigW := List.mem_filter.mpr ⟨List.mem_of_getElem? (i := 51) (by decide +kernel), rfl⟩
theorem se_X8_isIn : Cond.selects RX8 yX8_isIn yX8_isIn ∈ bigW := List.mem_filter.mpr ⟨List.mem_of_getElem? (i := 52) (by decide +kernel), rfl⟩
theorem se_X8_areSo : Cond.selects RX8 yX8_areSo yX8_areSo ∈ bigW := List.mem_filter.mpr ⟨List.mem_of_getElem? (i := 53) (by decide +kernel), rfl⟩
theorem se_X8_lost : Cond.selects RX8 yX8_lost yX8_lost ∈ bigW := List.mem_filter.mpr ⟨List.mem_of_getElem? (i := 54) (by decide +kernel), rfl⟩
theorem se_X8_begins : Cond.selects RX8 yX8_begins yX8_begins ∈ bigW := List.mem_filter.mpr ⟨List.mem_of_getElem? (i := 55) (by decide +kernel), rfl⟩
theorem ini_L : Cond.initialized RL ∈ bigW := List.mem_filter.mpr ⟨List.mem_of_getElem? (i := 56) (by decide +kernel), rfl⟩
theorem ini_X7 : Cond.initialized RX7 ∈ bigW := List.mem_filter.mpr ⟨List.mem_of_getElem? (i := 57) (by decide +kernel), rfl⟩
theorem ini_X5 : Cond.initialized RX5 ∈ bigW := List.mem_filter.mpr ⟨List.mem_of_getElem? (i := 58) (by decide +kernel), rfl⟩
theorem ini_X6 : Cond.initialized RX6 ∈ bigW := List.mem_filter.mpr ⟨List.mem_of_getElem? (i := 59) (by decide +kernel), rfl⟩
theorem ini_X1 : Cond.initialized RX1 ∈ bigW := List.mem_filter.mpr ⟨List.mem_of_getElem? (i := 60) (by decide +kernel), rfl⟩
theorem ini_X2 : Cond.initialized RX2 ∈ bigW := List.mem_filter.mpr ⟨List.mem_of_getElem? (i := 61) (by decide +kernel), rfl⟩
theorem ini_X0 : Cond.initialized RX0 ∈ bigW := List.mem_filter.mpr ⟨List.mem_of_getElem? (i := 62) (by decide +kernel), rfl⟩
theorem ini_X4 : Cond.initialized RX4 ∈ bigW := List.mem_filter.mpr ⟨List.mem_of_getElem? (i := 63) (by decide +kernel), rfl⟩
theorem ini_X3 : Cond.initialized RX3 ∈ bigW := List.mem_filter.mpr ⟨List.mem_of_getElem? (i := 64) (by decide +kernel), rfl⟩
theorem ini_X8 : Cond.initialized RX8 ∈ bigW := List.mem_filter.mpr ⟨List.mem_of_getElem? (i := 65) (by decide +kernel), rfl⟩
theorem ini_J6 : Cond.initialized RJ6 ∈ bigW := List.mem_filter.mpr ⟨List.mem_of_getElem? (i := 66) (by decide +kernel), rfl⟩
theorem ini_J9 : Cond.initialized RJ9 ∈ bigW := List.mem_filter.mpr ⟨List.mem_of_getElem? (i := 67) (by decide +kernel), rfl⟩
theorem ini_J7 : Cond.initialized RJ7 ∈ bigW := List.mem_filter.mpr ⟨List.mem_of_getElem? (i := 68) (by decide +kernel), rfl⟩
theorem ini_J10 : Cond.initialized RJ10 ∈ bigW := List.mem_filter.mpr ⟨List.mem_of_getElem? (i := 69) (by decide +kernel), rfl⟩
theorem cl_L_7 : Cond.classLink RL 7 RX7 ∈ bigW := List.mem_filter.mpr ⟨List.mem_of_getElem? (i := 70) (by decide +kernel), rfl⟩
theorem ins_X7 : Cond.instantiable RX7 17 ∈ bigW := List.mem_filter.mpr ⟨List.mem_of_getElem? (i := 71) (by decide +kernel), rfl⟩
theorem ml_L_9 : Cond.methodLink RL 9 yX7_init ∈ bigW := List.mem_filter.mpr ⟨List.mem_of_getElem? (i := 72) (by decide +kernel), rfl⟩
theorem im_X7_init : Cond.instanceMethod yX7_init ∈ bigW := List.mem_filter.mpr ⟨List.mem_of_getElem? (i := 73) (by decide +kernel), rfl⟩
theorem co_X7_init : Cond.code yX7_init cX7_init 2 none ∈ bigW := List.mem_filter.mpr ⟨List.mem_of_getElem? (i := 74) (by decide +kernel), rfl⟩
theorem ml_X7_5 : Cond.methodLink RX7 5 objectInit ∈ bigW := List.mem_filter.mpr ⟨List.mem_of_getElem? (i := 75) (by decide +kernel), rfl⟩
theorem im_objectInit : Cond.instanceMethod objectInit ∈ bigW := List.mem_filter.mpr ⟨List.mem_of_getElem? (i := 76) (by decide +kernel), rfl⟩
theorem co_objectInit : Cond.code objectInit ⟨#[0xb1]⟩ 1 none ∈ bigW := List.mem_filter.mpr ⟨List.mem_of_getElem? (i := 77) (by decide +kernel), rfl⟩
theorem cl_X7_11 : Cond.classLink RX7 11 RX4 ∈ bigW := List.mem_filter.mpr ⟨List.mem_of_getElem? (i := 78) (by decide +kernel), rfl⟩
theorem ao_X4 : Cond.arrayOver (.object RX4) ∈ bigW := List.mem_filter.mpr ⟨List.mem_of_getElem? (i := 79) (by decide +kernel), rfl⟩
theorem cl_X7_17 : Cond.classLink RX7 17 RX5 ∈ bigW := List.mem_filter.mpr ⟨List.mem_of_getElem? (i := 80) (by decide +kernel), rfl⟩
theorem ins_X5 : Cond.instantiable RX5 2 ∈ bigW := List.mem_filter.mpr ⟨List.mem_of_getElem? (i := 81) (by decide +kernel), rfl⟩
theorem mn_X7_19 : Cond.methodLinkNest RX7 19 yX5_init RX7 ∈ bigW := List.mem_filter.mpr ⟨List.mem_of_getElem? (i := 82) (by decide +kernel), rfl⟩
theorem im_X5_init : Cond.instanceMethod yX5_init ∈ bigW := List.mem_filter.mpr ⟨List.mem_of_getElem? (i := 83) (by decide +kernel), rfl⟩
theorem co_X5_init : Cond.code yX5_init cX5_init 1 none ∈ bigW := List.mem_filter.mpr ⟨List.mem_of_getElem? (i := 84) (by decide +kernel), rfl⟩
theorem ml_X5_3 : Cond.methodLink RX5 3 objectInit ∈ bigW := List.mem_filter.mpr ⟨List.mem_of_getElem? (i := 85) (by decide +kernel), rfl⟩
theorem mn_X5_9 : Cond.methodLinkNest RX5 9 yX7_newWords RX7 ∈ bigW := List.mem_filter.mpr ⟨List.mem_of_getElem? (i := 86) (by decide +kernel), rfl⟩
theorem st_X7_newWords : Cond.static yX7_newWords ∈ bigW := List.mem_filter.mpr ⟨List.mem_of_getElem? (i := 87) (by decide +kernel), rfl⟩
theorem co_X7_newWords : Cond.code yX7_newWords cX7_newWords 2 (some ((FieldType.array (FieldType.object "OneLongRow$Word")))) ∈ bigW := List.mem_filter.mpr ⟨List.mem_of_getElem? (i := 88) (by decide +kernel), rfl⟩
theorem cl_X7_45 : Cond.classLink RX7 45 RX6 ∈ bigW := List.mem_filter.mpr ⟨List.mem_of_getElem? (i := 89) (by decide +kernel), rfl⟩
theorem ao_X6 : Cond.arrayOver (.object RX6) ∈ bigW := List.mem_filter.mpr ⟨List.mem_of_getElem? (i := 90) (by decide +kernel), rfl⟩
theorem ins_X6 : Cond.instantiable RX6 3 ∈ bigW := List.mem_filter.mpr ⟨List.mem_of_getElem? (i := 91) (by decide +kernel), rfl⟩
theorem mn_X7_47 : Cond.methodLinkNest RX7 47 yX6_init RX7 ∈ bigW := List.mem_filter.mpr ⟨List.mem_of_getElem? (i := 92) (by decide +kernel), rfl⟩
theorem im_X6_init : Cond.instanceMethod yX6_init ∈ bigW := List.mem_filter.mpr ⟨List.mem_of_getElem? (i := 93) (by decide +kernel), rfl⟩
theorem co_X6_init : Cond.code yX6_init cX6_init 1 none ∈ bigW := List.mem_filter.mpr ⟨List.mem_of_getElem? (i := 94) (by decide +kernel), rfl⟩
theorem ml_X6_3 : Cond.methodLink RX6 3 objectInit ∈ bigW := List.mem_filter.mpr ⟨List.mem_of_getElem? (i := 95) (by decide +kernel), rfl⟩
theorem fl_X6_9 : Cond.fieldLink RX6 9 "OneLongRow$Word" "letters" "[I" ∈ bigW := List.mem_filter.mpr ⟨List.mem_of_getElem? (i := 96) (by decide +kernel), rfl⟩
theorem fl_X7_132 : Cond.fieldLink RX7 132 "OneLongRow$Word" "letters" "[I" ∈ bigW := List.mem_filter.mpr ⟨List.mem_of_getElem? (i := 97) (by decide +kernel), rfl⟩
theorem fl_X5_56 : Cond.fieldLink RX5 56 "OneLongRow$Word" "letters" "[I" ∈ bigW := List.mem_filter.mpr ⟨List.mem_of_getElem? (i := 98) (by decide +kernel), rfl⟩
theorem fl_X6_19 : Cond.fieldLink RX6 19 "OneLongRow$Word" "length" "I" ∈ bigW := List.mem_filter.mpr ⟨List.mem_of_getElem? (i := 99) (by decide +kernel), rfl⟩
theorem fl_X7_118 : Cond.fieldLink RX7 118 "OneLongRow$Word" "length" "I" ∈ bigW := List.mem_filter.mpr ⟨List.mem_of_getElem? (i := 100) (by decide +kernel), rfl⟩
theorem fl_X5_48 : Cond.fieldLink RX5 48 "OneLongRow$Word" "length" "I" ∈ bigW := List.mem_filter.mpr ⟨List.mem_of_getElem? (i := 101) (by decide +kernel), rfl⟩
theorem fl_X1_55 : Cond.fieldLink RX1 55 "OneLongRow$Word" "length" "I" ∈ bigW := List.mem_filter.mpr ⟨List.mem_of_getElem? (i := 102) (by decide +kernel), rfl⟩
theorem fl_X6_15 : Cond.fieldLink RX6 15 "OneLongRow$Word" "kind" "I" ∈ bigW := List.mem_filter.mpr ⟨List.mem_of_getElem? (i := 103) (by decide +kernel), rfl⟩
theorem fl_X7_115 : Cond.fieldLink RX7 115 "OneLongRow$Word" "kind" "I" ∈ bigW := List.mem_filter.mpr ⟨List.mem_of_getElem? (i := 104) (by decide +kernel), rfl⟩
theorem fl_X5_53 : Cond.fieldLink RX5 53 "OneLongRow$Word" "kind" "I" ∈ bigW := List.mem_filter.mpr ⟨List.mem_of_getElem? (i := 105) (by decide +kernel), rfl⟩
theorem ac_int : Cond.arrayClass .int ∈ bigW := List.mem_filter.mpr ⟨List.mem_of_getElem? (i := 113) (by decide +kernel), rfl⟩
theorem fl_X5_13 : Cond.fieldLink RX5 13 "OneLongRow$Text" "drafts" "[LOneLongRow$Word;" ∈ bigW := List.mem_filter.mpr ⟨List.mem_of_getElem? (i := 114) (by decide +kernel), rfl⟩
theorem fl_X7_249 : Cond.fieldLink RX7 249 "OneLongRow$Text" "drafts" "[LOneLongRow$Word;" ∈ bigW := List.mem_filter.mpr ⟨List.mem_of_getElem? (i := 115) (by decide +kernel), rfl⟩
theorem fl_X5_25 : Cond.fieldLink RX5 25 "OneLongRow$Text" "begun" "I" ∈ bigW := List.mem_filter.mpr ⟨List.mem_of_getElem? (i := 116) (by decide +kernel), rfl⟩
theorem fl_X7_252 : Cond.fieldLink RX7 252 "OneLongRow$Text" "begun" "I" ∈ bigW := List.mem_filter.mpr ⟨List.mem_of_getElem? (i := 117) (by decide +kernel), rfl⟩
theorem ml_X7_24 : Cond.methodLink RX7 24 yX7_newWords ∈ bigW := List.mem_filter.mpr ⟨List.mem_of_getElem? (i := 123) (by decide +kernel), rfl⟩
theorem cl_X7_39 : Cond.classLink RX7 39 RX3 ∈ bigW := List.mem_filter.mpr ⟨List.mem_of_getElem? (i := 124) (by decide +kernel), rfl⟩
theorem ao_X3 : Cond.arrayOver (.object RX3) ∈ bigW := List.mem_filter.mpr ⟨List.mem_of_getElem? (i := 125) (by decide +kernel), rfl⟩
theorem cl_X7_55 : Cond.classLink RX7 55 RX1 ∈ bigW := List.mem_filter.mpr ⟨List.mem_of_getElem? (i := 126) (by decide +kernel), rfl⟩
theorem ins_X1 : Cond.instantiable RX1 6 ∈ bigW := List.mem_filter.mpr ⟨List.mem_of_getElem? (i := 127) (by decide +kernel), rfl⟩
theorem ml_X7_57 : Cond.methodLink RX7 57 yX1_init ∈ bigW := List.mem_filter.mpr ⟨List.mem_of_getElem? (i := 128) (by decide +kernel), rfl⟩
theorem im_X1_init : Cond.instanceMethod yX1_init ∈ bigW := List.mem_filter.mpr ⟨List.mem_of_getElem? (i := 129) (by decide +kernel), rfl⟩
theorem co_X1_init : Cond.code yX1_init cX1_init 2 none ∈ bigW := List.mem_filter.mpr ⟨List.mem_of_getElem? (i := 130) (by decide +kernel), rfl⟩
theorem ml_X1_3 : Cond.methodLink RX1 3 objectInit ∈ bigW := List.mem_filter.mpr ⟨List.mem_of_getElem? (i := 131) (by decide +kernel), rfl⟩
theorem ml_X1_28 : Cond.methodLink RX1 28 yX1_behind ∈ bigW := List.mem_filter.mpr ⟨List.mem_of_getElem? (i := 132) (by decide +kernel), rfl⟩
theorem st_X1_behind : Cond.static yX1_behind ∈ bigW := List.mem_filter.mpr ⟨List.mem_of_getElem? (i := 133) (by decide +kernel), rfl⟩
theorem co_X1_behind : Cond.code yX1_behind cX1_behind 2 (some (FieldType.int)) ∈ bigW := List.mem_filter.mpr ⟨List.mem_of_getElem? (i := 134) (by decide +kernel), rfl⟩
theorem fl_X1_11 : Cond.fieldLink RX1 11 "OneLongRow$Net" "shorter" "[I" ∈ bigW := List.mem_filter.mpr ⟨List.mem_of_getElem? (i := 135) (by decide +kernel), rfl⟩
theorem fl_X1_15 : Cond.fieldLink RX1 15 "OneLongRow$Net" "heard" "[I" ∈ bigW := List.mem_filter.mpr ⟨List.mem_of_getElem? (i := 136) (by decide +kernel), rfl⟩
theorem fl_X2_64 : Cond.fieldLink RX2 64 "OneLongRow$Net" "heard" "[I" ∈ bigW := List.mem_filter.mpr ⟨List.mem_of_getElem? (i := 137) (by decide +kernel), rfl⟩
theorem fl_X1_18 : Cond.fieldLink RX1 18 "OneLongRow$Net" "after" "[I" ∈ bigW := List.mem_filter.mpr ⟨List.mem_of_getElem? (i := 138) (by decide +kernel), rfl⟩
theorem fl_X2_67 : Cond.fieldLink RX2 67 "OneLongRow$Net" "after" "[I" ∈ bigW := List.mem_filter.mpr ⟨List.mem_of_getElem? (i := 139) (by decide +kernel), rfl⟩
theorem fl_X1_21 : Cond.fieldLink RX1 21 "OneLongRow$Net" "isStay" "[Z" ∈ bigW := List.mem_filter.mpr ⟨List.mem_of_getElem? (i := 140) (by decide +kernel), rfl⟩
theorem fl_X1_25 : Cond.fieldLink RX1 25 "OneLongRow$Net" "trail" "[I" ∈ bigW := List.mem_filter.mpr ⟨List.mem_of_getElem? (i := 141) (by decide +kernel), rfl⟩
theorem fl_X2_47 : Cond.fieldLink RX2 47 "OneLongRow$Net" "whole" "I" ∈ bigW := List.mem_filter.mpr ⟨List.mem_of_getElem? (i := 142) (by decide +kernel), rfl⟩
theorem fl_X1_32 : Cond.fieldLink RX1 32 "OneLongRow$Net" "whole" "I" ∈ bigW := List.mem_filter.mpr ⟨List.mem_of_getElem? (i := 143) (by decide +kernel), rfl⟩
theorem ac_boolean : Cond.arrayClass .boolean ∈ bigW := List.mem_filter.mpr ⟨List.mem_of_getElem? (i := 157) (by decide +kernel), rfl⟩
theorem cl_X7_62 : Cond.classLink RX7 62 RX2 ∈ bigW := List.mem_filter.mpr ⟨List.mem_of_getElem? (i := 158) (by decide +kernel), rfl⟩
theorem ins_X2 : Cond.instantiable RX2 8 ∈ bigW := List.mem_filter.mpr ⟨List.mem_of_getElem? (i := 159) (by decide +kernel), rfl⟩
theorem mn_X7_64 : Cond.methodLinkNest RX7 64 yX2_init RX7 ∈ bigW := List.mem_filter.mpr ⟨List.mem_of_getElem? (i := 160) (by decide +kernel), rfl⟩
theorem im_X2_init : Cond.instanceMethod yX2_init ∈ bigW := List.mem_filter.mpr ⟨List.mem_of_getElem? (i := 161) (by decide +kernel), rfl⟩
theorem co_X2_init : Cond.code yX2_init cX2_init 1 none ∈ bigW := List.mem_filter.mpr ⟨List.mem_of_getElem? (i := 162) (by decide +kernel), rfl⟩
theorem ml_X2_5 : Cond.methodLink RX2 5 objectInit ∈ bigW := List.mem_filter.mpr ⟨List.mem_of_getElem? (i := 163) (by decide +kernel), rfl⟩
theorem fl_X2_13 : Cond.fieldLink RX2 13 "OneLongRow$Points" "numbers" "[I" ∈ bigW := List.mem_filter.mpr ⟨List.mem_of_getElem? (i := 164) (by decide +kernel), rfl⟩
theorem fl_X2_17 : Cond.fieldLink RX2 17 "OneLongRow$Points" "places" "[I" ∈ bigW := List.mem_filter.mpr ⟨List.mem_of_getElem? (i := 165) (by decide +kernel), rfl⟩
theorem fl_X2_20 : Cond.fieldLink RX2 20 "OneLongRow$Points" "foundBy" "[I" ∈ bigW := List.mem_filter.mpr ⟨List.mem_of_getElem? (i := 166) (by decide +kernel), rfl⟩
theorem fl_X2_23 : Cond.fieldLink RX2 23 "OneLongRow$Points" "next" "[I" ∈ bigW := List.mem_filter.mpr ⟨List.mem_of_getElem? (i := 167) (by decide +kernel), rfl⟩
theorem fl_X0_46 : Cond.fieldLink RX0 46 "OneLongRow$Points" "next" "[I" ∈ bigW := List.mem_filter.mpr ⟨List.mem_of_getElem? (i := 168) (by decide +kernel), rfl⟩
theorem fl_X2_26 : Cond.fieldLink RX2 26 "OneLongRow$Points" "letters" "[I" ∈ bigW := List.mem_filter.mpr ⟨List.mem_of_getElem? (i := 169) (by decide +kernel), rfl⟩
theorem fl_X7_158 : Cond.fieldLink RX7 158 "OneLongRow$Points" "letters" "[I" ∈ bigW := List.mem_filter.mpr ⟨List.mem_of_getElem? (i := 170) (by decide +kernel), rfl⟩
theorem fl_X2_35 : Cond.fieldLink RX2 35 "OneLongRow$Points" "many" "I" ∈ bigW := List.mem_filter.mpr ⟨List.mem_of_getElem? (i := 171) (by decide +kernel), rfl⟩
theorem fl_X0_43 : Cond.fieldLink RX0 43 "OneLongRow$Points" "many" "I" ∈ bigW := List.mem_filter.mpr ⟨List.mem_of_getElem? (i := 172) (by decide +kernel), rfl⟩
theorem fl_X2_55 : Cond.fieldLink RX2 55 "OneLongRow$Points" "wholePoint" "I" ∈ bigW := List.mem_filter.mpr ⟨List.mem_of_getElem? (i := 173) (by decide +kernel), rfl⟩
theorem fl_X0_54 : Cond.fieldLink RX0 54 "OneLongRow$Points" "wholePoint" "I" ∈ bigW := List.mem_filter.mpr ⟨List.mem_of_getElem? (i := 174) (by decide +kernel), rfl⟩
theorem fl_X2_70 : Cond.fieldLink RX2 70 "OneLongRow$Points" "length" "I" ∈ bigW := List.mem_filter.mpr ⟨List.mem_of_getElem? (i := 175) (by decide +kernel), rfl⟩
theorem fl_X7_157 : Cond.fieldLink RX7 157 "OneLongRow$Points" "length" "I" ∈ bigW := List.mem_filter.mpr ⟨List.mem_of_getElem? (i := 176) (by decide +kernel), rfl⟩
theorem cl_X7_69 : Cond.classLink RX7 69 RX0 ∈ bigW := List.mem_filter.mpr ⟨List.mem_of_getElem? (i := 194) (by decide +kernel), rfl⟩
theorem ins_X0 : Cond.instantiable RX0 5 ∈ bigW := List.mem_filter.mpr ⟨List.mem_of_getElem? (i := 195) (by decide +kernel), rfl⟩
theorem mn_X7_71 : Cond.methodLinkNest RX7 71 yX0_init RX7 ∈ bigW := List.mem_filter.mpr ⟨List.mem_of_getElem? (i := 196) (by decide +kernel), rfl⟩
theorem im_X0_init : Cond.instanceMethod yX0_init ∈ bigW := List.mem_filter.mpr ⟨List.mem_of_getElem? (i := 197) (by decide +kernel), rfl⟩
theorem co_X0_init : Cond.code yX0_init cX0_init 1 none ∈ bigW := List.mem_filter.mpr ⟨List.mem_of_getElem? (i := 198) (by decide +kernel), rfl⟩
theorem ml_X0_3 : Cond.methodLink RX0 3 objectInit ∈ bigW := List.mem_filter.mpr ⟨List.mem_of_getElem? (i := 199) (by decide +kernel), rfl⟩
theorem fl_X0_9 : Cond.fieldLink RX0 9 "OneLongRow$Counts" "withAll" "[J" ∈ bigW := List.mem_filter.mpr ⟨List.mem_of_getElem? (i := 200) (by decide +kernel), rfl⟩
theorem fl_X7_168 : Cond.fieldLink RX7 168 "OneLongRow$Counts" "withAll" "[J" ∈ bigW := List.mem_filter.mpr ⟨List.mem_of_getElem? (i := 201) (by decide +kernel), rfl⟩
theorem fl_X0_15 : Cond.fieldLink RX0 15 "OneLongRow$Counts" "withNone" "[J" ∈ bigW := List.mem_filter.mpr ⟨List.mem_of_getElem? (i := 202) (by decide +kernel), rfl⟩
theorem fl_X7_172 : Cond.fieldLink RX7 172 "OneLongRow$Counts" "withNone" "[J" ∈ bigW := List.mem_filter.mpr ⟨List.mem_of_getElem? (i := 203) (by decide +kernel), rfl⟩
theorem fl_X0_20 : Cond.fieldLink RX0 20 "OneLongRow$Counts" "rows" "[J" ∈ bigW := List.mem_filter.mpr ⟨List.mem_of_getElem? (i := 204) (by decide +kernel), rfl⟩
theorem fl_X0_23 : Cond.fieldLink RX0 23 "OneLongRow$Counts" "longerRows" "[J" ∈ bigW := List.mem_filter.mpr ⟨List.mem_of_getElem? (i := 205) (by decide +kernel), rfl⟩
theorem fl_X0_32 : Cond.fieldLink RX0 32 "OneLongRow$Counts" "counted" "I" ∈ bigW := List.mem_filter.mpr ⟨List.mem_of_getElem? (i := 206) (by decide +kernel), rfl⟩
theorem ac_long : Cond.arrayClass .long ∈ bigW := List.mem_filter.mpr ⟨List.mem_of_getElem? (i := 218) (by decide +kernel), rfl⟩
theorem ins_X4 : Cond.instantiable RX4 4 ∈ bigW := List.mem_filter.mpr ⟨List.mem_of_getElem? (i := 219) (by decide +kernel), rfl⟩
theorem mn_X7_80 : Cond.methodLinkNest RX7 80 yX4_init RX7 ∈ bigW := List.mem_filter.mpr ⟨List.mem_of_getElem? (i := 220) (by decide +kernel), rfl⟩
theorem im_X4_init : Cond.instanceMethod yX4_init ∈ bigW := List.mem_filter.mpr ⟨List.mem_of_getElem? (i := 221) (by decide +kernel), rfl⟩
theorem co_X4_init : Cond.code yX4_init cX4_init 1 none ∈ bigW := List.mem_filter.mpr ⟨List.mem_of_getElem? (i := 222) (by decide +kernel), rfl⟩
theorem ml_X4_3 : Cond.methodLink RX4 3 objectInit ∈ bigW := List.mem_filter.mpr ⟨List.mem_of_getElem? (i := 223) (by decide +kernel), rfl⟩
theorem fl_X4_9 : Cond.fieldLink RX4 9 "OneLongRow$Sheet" "cells" "[I" ∈ bigW := List.mem_filter.mpr ⟨List.mem_of_getElem? (i := 224) (by decide +kernel), rfl⟩
theorem fl_X5_29 : Cond.fieldLink RX5 29 "OneLongRow$Sheet" "cells" "[I" ∈ bigW := List.mem_filter.mpr ⟨List.mem_of_getElem? (i := 225) (by decide +kernel), rfl⟩
theorem fl_X7_216 : Cond.fieldLink RX7 216 "OneLongRow$Sheet" "cells" "[I" ∈ bigW := List.mem_filter.mpr ⟨List.mem_of_getElem? (i := 226) (by decide +kernel), rfl⟩
theorem fl_X4_15 : Cond.fieldLink RX4 15 "OneLongRow$Sheet" "isThere" "Z" ∈ bigW := List.mem_filter.mpr ⟨List.mem_of_getElem? (i := 227) (by decide +kernel), rfl⟩
theorem fl_X7_206 : Cond.fieldLink RX7 206 "OneLongRow$Sheet" "isThere" "Z" ∈ bigW := List.mem_filter.mpr ⟨List.mem_of_getElem? (i := 228) (by decide +kernel), rfl⟩
theorem fl_X4_19 : Cond.fieldLink RX4 19 "OneLongRow$Sheet" "lane" "I" ∈ bigW := List.mem_filter.mpr ⟨List.mem_of_getElem? (i := 229) (by decide +kernel), rfl⟩
theorem fl_X7_219 : Cond.fieldLink RX7 219 "OneLongRow$Sheet" "lane" "I" ∈ bigW := List.mem_filter.mpr ⟨List.mem_of_getElem? (i := 230) (by decide +kernel), rfl⟩
theorem fl_X4_23 : Cond.fieldLink RX4 23 "OneLongRow$Sheet" "length" "I" ∈ bigW := List.mem_filter.mpr ⟨List.mem_of_getElem? (i := 231) (by decide +kernel), rfl⟩
theorem fl_X7_209 : Cond.fieldLink RX7 209 "OneLongRow$Sheet" "length" "I" ∈ bigW := List.mem_filter.mpr ⟨List.mem_of_getElem? (i := 232) (by decide +kernel), rfl⟩
theorem ins_X3 : Cond.instantiable RX3 4 ∈ bigW := List.mem_filter.mpr ⟨List.mem_of_getElem? (i := 242) (by decide +kernel), rfl⟩
theorem mn_X7_81 : Cond.methodLinkNest RX7 81 yX3_init RX7 ∈ bigW := List.mem_filter.mpr ⟨List.mem_of_getElem? (i := 243) (by decide +kernel), rfl⟩
theorem im_X3_init : Cond.instanceMethod yX3_init ∈ bigW := List.mem_filter.mpr ⟨List.mem_of_getElem? (i := 244) (by decide +kernel), rfl⟩
theorem co_X3_init : Cond.code yX3_init cX3_init 1 none ∈ bigW := List.mem_filter.mpr ⟨List.mem_of_getElem? (i := 245) (by decide +kernel), rfl⟩
theorem ml_X3_3 : Cond.methodLink RX3 3 objectInit ∈ bigW := List.mem_filter.mpr ⟨List.mem_of_getElem? (i := 246) (by decide +kernel), rfl⟩
theorem fl_X3_9 : Cond.fieldLink RX3 9 "OneLongRow$Reading" "letters" "[I" ∈ bigW := List.mem_filter.mpr ⟨List.mem_of_getElem? (i := 247) (by decide +kernel), rfl⟩
theorem fl_X7_284 : Cond.fieldLink RX7 284 "OneLongRow$Reading" "letters" "[I" ∈ bigW := List.mem_filter.mpr ⟨List.mem_of_getElem? (i := 248) (by decide +kernel), rfl⟩
theorem fl_X3_15 : Cond.fieldLink RX3 15 "OneLongRow$Reading" "word" "I" ∈ bigW := List.mem_filter.mpr ⟨List.mem_of_getElem? (i := 249) (by decide +kernel), rfl⟩
theorem fl_X7_281 : Cond.fieldLink RX7 281 "OneLongRow$Reading" "word" "I" ∈ bigW := List.mem_filter.mpr ⟨List.mem_of_getElem? (i := 250) (by decide +kernel), rfl⟩
theorem fl_X3_19 : Cond.fieldLink RX3 19 "OneLongRow$Reading" "length" "I" ∈ bigW := List.mem_filter.mpr ⟨List.mem_of_getElem? (i := 251) (by decide +kernel), rfl⟩
theorem fl_X7_285 : Cond.fieldLink RX7 285 "OneLongRow$Reading" "length" "I" ∈ bigW := List.mem_filter.mpr ⟨List.mem_of_getElem? (i := 252) (by decide +kernel), rfl⟩
theorem fl_X3_22 : Cond.fieldLink RX3 22 "OneLongRow$Reading" "stands" "Z" ∈ bigW := List.mem_filter.mpr ⟨List.mem_of_getElem? (i := 253) (by decide +kernel), rfl⟩
theorem fl_X7_286 : Cond.fieldLink RX7 286 "OneLongRow$Reading" "stands" "Z" ∈ bigW := List.mem_filter.mpr ⟨List.mem_of_getElem? (i := 254) (by decide +kernel), rfl⟩
theorem fl_X7_13 : Cond.fieldLink RX7 13 "OneLongRow" "sheets" "[LOneLongRow$Sheet;" ∈ bigW := List.mem_filter.mpr ⟨List.mem_of_getElem? (i := 264) (by decide +kernel), rfl⟩
theorem fl_X7_20 : Cond.fieldLink RX7 20 "OneLongRow" "text" "LOneLongRow$Text;" ∈ bigW := List.mem_filter.mpr ⟨List.mem_of_getElem? (i := 265) (by decide +kernel), rfl⟩
theorem fl_X7_28 : Cond.fieldLink RX7 28 "OneLongRow" "known" "[LOneLongRow$Word;" ∈ bigW := List.mem_filter.mpr ⟨List.mem_of_getElem? (i := 266) (by decide +kernel), rfl⟩
theorem fl_X7_109 : Cond.fieldLink RX7 109 "OneLongRow" "knownMany" "I" ∈ bigW := List.mem_filter.mpr ⟨List.mem_of_getElem? (i := 267) (by decide +kernel), rfl⟩
theorem fl_X7_32 : Cond.fieldLink RX7 32 "OneLongRow" "said" "[I" ∈ bigW := List.mem_filter.mpr ⟨List.mem_of_getElem? (i := 268) (by decide +kernel), rfl⟩
theorem fl_X7_125 : Cond.fieldLink RX7 125 "OneLongRow" "saidMany" "I" ∈ bigW := List.mem_filter.mpr ⟨List.mem_of_getElem? (i := 269) (by decide +kernel), rfl⟩
theorem fl_X7_36 : Cond.fieldLink RX7 36 "OneLongRow" "told" "[I" ∈ bigW := List.mem_filter.mpr ⟨List.mem_of_getElem? (i := 270) (by decide +kernel), rfl⟩
theorem fl_X7_41 : Cond.fieldLink RX7 41 "OneLongRow" "readings" "[LOneLongRow$Reading;" ∈ bigW := List.mem_filter.mpr ⟨List.mem_of_getElem? (i := 271) (by decide +kernel), rfl⟩
theorem fl_X7_182 : Cond.fieldLink RX7 182 "OneLongRow" "readingMany" "I" ∈ bigW := List.mem_filter.mpr ⟨List.mem_of_getElem? (i := 272) (by decide +kernel), rfl⟩
theorem fl_X7_48 : Cond.fieldLink RX7 48 "OneLongRow" "trial" "LOneLongRow$Word;" ∈ bigW := List.mem_filter.mpr ⟨List.mem_of_getElem? (i := 273) (by decide +kernel), rfl⟩
theorem fl_X7_52 : Cond.fieldLink RX7 52 "OneLongRow" "formLetters" "[I" ∈ bigW := List.mem_filter.mpr ⟨List.mem_of_getElem? (i := 274) (by decide +kernel), rfl⟩
theorem fl_X7_58 : Cond.fieldLink RX7 58 "OneLongRow" "net" "LOneLongRow$Net;" ∈ bigW := List.mem_filter.mpr ⟨List.mem_of_getElem? (i := 275) (by decide +kernel), rfl⟩
theorem fl_X7_65 : Cond.fieldLink RX7 65 "OneLongRow" "points" "LOneLongRow$Points;" ∈ bigW := List.mem_filter.mpr ⟨List.mem_of_getElem? (i := 276) (by decide +kernel), rfl⟩
theorem fl_X7_72 : Cond.fieldLink RX7 72 "OneLongRow" "counts" "LOneLongRow$Counts;" ∈ bigW := List.mem_filter.mpr ⟨List.mem_of_getElem? (i := 277) (by decide +kernel), rfl⟩
theorem fl_X7_76 : Cond.fieldLink RX7 76 "OneLongRow" "netIsOld" "Z" ∈ bigW := List.mem_filter.mpr ⟨List.mem_of_getElem? (i := 278) (by decide +kernel), rfl⟩
theorem fl_X7_243 : Cond.fieldLink RX7 243 "OneLongRow" "traced" "I" ∈ bigW := List.mem_filter.mpr ⟨List.mem_of_getElem? (i := 279) (by decide +kernel), rfl⟩
theorem fl_X7_82 : Cond.fieldLink RX7 82 "OneLongRow" "latestFault" "I" ∈ bigW := List.mem_filter.mpr ⟨List.mem_of_getElem? (i := 280) (by decide +kernel), rfl⟩
theorem ml_L_13 : Cond.methodLink RL 13 yX7_words ∈ bigW := List.mem_filter.mpr ⟨List.mem_of_getElem? (i := 316) (by decide +kernel), rfl⟩
theorem im_X7_words : Cond.instanceMethod yX7_words ∈ bigW := List.mem_filter.mpr ⟨List.mem_of_getElem? (i := 317) (by decide +kernel), rfl⟩
theorem se_X7_words : Cond.selects RX7 yX7_words yX7_words ∈ bigW := List.mem_filter.mpr ⟨List.mem_of_getElem? (i := 318) (by decide +kernel), rfl⟩
theorem co_X7_words : Cond.code yX7_words cX7_words 7 (some (FieldType.int)) ∈ bigW := List.mem_filter.mpr ⟨List.mem_of_getElem? (i := 319) (by decide +kernel), rfl⟩
theorem ml_X7_86 : Cond.methodLink RX7 86 yX7_isSheet ∈ bigW := List.mem_filter.mpr ⟨List.mem_of_getElem? (i := 320) (by decide +kernel), rfl⟩
theorem st_X7_isSheet : Cond.static yX7_isSheet ∈ bigW := List.mem_filter.mpr ⟨List.mem_of_getElem? (i := 321) (by decide +kernel), rfl⟩
theorem co_X7_isSheet : Cond.code yX7_isSheet cX7_isSheet 1 (some (FieldType.boolean)) ∈ bigW := List.mem_filter.mpr ⟨List.mem_of_getElem? (i := 322) (by decide +kernel), rfl⟩
theorem ml_X7_90 : Cond.methodLink RX7 90 yX7_isBelow ∈ bigW := List.mem_filter.mpr ⟨List.mem_of_getElem? (i := 323) (by decide +kernel), rfl⟩
theorem st_X7_isBelow : Cond.static yX7_isBelow ∈ bigW := List.mem_filter.mpr ⟨List.mem_of_getElem? (i := 324) (by decide +kernel), rfl⟩
theorem co_X7_isBelow : Cond.code yX7_isBelow cX7_isBelow 2 (some (FieldType.boolean)) ∈ bigW := List.mem_filter.mpr ⟨List.mem_of_getElem? (i := 325) (by decide +kernel), rfl⟩
theorem ml_X7_94 : Cond.methodLink RX7 94 yX4_faultOfCells ∈ bigW := List.mem_filter.mpr ⟨List.mem_of_getElem? (i := 326) (by decide +kernel), rfl⟩
theorem im_X4_faultOfCells : Cond.instanceMethod yX4_faultOfCells ∈ bigW := List.mem_filter.mpr ⟨List.mem_of_getElem? (i := 327) (by decide +kernel), rfl⟩
theorem se_X4_faultOfCells : Cond.selects RX4 yX4_faultOfCells yX4_faultOfCells ∈ bigW := List.mem_filter.mpr ⟨List.mem_of_getElem? (i := 328) (by decide +kernel), rfl⟩
theorem co_X4_faultOfCells : Cond.code yX4_faultOfCells cX4_faultOfCells 5 (some (FieldType.int)) ∈ bigW := List.mem_filter.mpr ⟨List.mem_of_getElem? (i := 329) (by decide +kernel), rfl⟩
theorem ml_X4_32 : Cond.methodLink RX4 32 yX4_faultOfLane ∈ bigW := List.mem_filter.mpr ⟨List.mem_of_getElem? (i := 330) (by decide +kernel), rfl⟩
theorem im_X4_faultOfLane : Cond.instanceMethod yX4_faultOfLane ∈ bigW := List.mem_filter.mpr ⟨List.mem_of_getElem? (i := 331) (by decide +kernel), rfl⟩
theorem se_X4_faultOfLane : Cond.selects RX4 yX4_faultOfLane yX4_faultOfLane ∈ bigW := List.mem_filter.mpr ⟨List.mem_of_getElem? (i := 332) (by decide +kernel), rfl⟩
theorem co_X4_faultOfLane : Cond.code yX4_faultOfLane cX4_faultOfLane 2 (some (FieldType.int)) ∈ bigW := List.mem_filter.mpr ⟨List.mem_of_getElem? (i := 333) (by decide +kernel), rfl⟩
theorem ml_X4_36 : Cond.methodLink RX4 36 yX4_hasCells ∈ bigW := List.mem_filter.mpr ⟨List.mem_of_getElem? (i := 334) (by decide +kernel), rfl⟩
theorem im_X4_hasCells : Cond.instanceMethod yX4_hasCells ∈ bigW := List.mem_filter.mpr ⟨List.mem_of_getElem? (i := 335) (by decide +kernel), rfl⟩
theorem se_X4_hasCells : Cond.selects RX4 yX4_hasCells yX4_hasCells ∈ bigW := List.mem_filter.mpr ⟨List.mem_of_getElem? (i := 336) (by decide +kernel), rfl⟩
theorem co_X4_hasCells : Cond.code yX4_hasCells cX4_hasCells 3 (some (FieldType.boolean)) ∈ bigW := List.mem_filter.mpr ⟨List.mem_of_getElem? (i := 337) (by decide +kernel), rfl⟩
theorem ml_X7_98 : Cond.methodLink RX7 98 yX7_failWith ∈ bigW := List.mem_filter.mpr ⟨List.mem_of_getElem? (i := 338) (by decide +kernel), rfl⟩
theorem im_X7_failWith : Cond.instanceMethod yX7_failWith ∈ bigW := List.mem_filter.mpr ⟨List.mem_of_getElem? (i := 340) (by decide +kernel), rfl⟩
theorem co_X7_failWith : Cond.code yX7_failWith cX7_failWith 2 (some (FieldType.int)) ∈ bigW := List.mem_filter.mpr ⟨List.mem_of_getElem? (i := 341) (by decide +kernel), rfl⟩
theorem ml_X7_102 : Cond.methodLink RX7 102 yX5_firstFault ∈ bigW := List.mem_filter.mpr ⟨List.mem_of_getElem? (i := 342) (by decide +kernel), rfl⟩
theorem im_X5_firstFault : Cond.instanceMethod yX5_firstFault ∈ bigW := List.mem_filter.mpr ⟨List.mem_of_getElem? (i := 343) (by decide +kernel), rfl⟩
theorem se_X5_firstFault : Cond.selects RX5 yX5_firstFault yX5_firstFault ∈ bigW := List.mem_filter.mpr ⟨List.mem_of_getElem? (i := 344) (by decide +kernel), rfl⟩
theorem co_X5_firstFault : Cond.code yX5_firstFault cX5_firstFault 6 (some (FieldType.int)) ∈ bigW := List.mem_filter.mpr ⟨List.mem_of_getElem? (i := 345) (by decide +kernel), rfl⟩
theorem ml_X5_19 : Cond.methodLink RX5 19 yX4_hasCells ∈ bigW := List.mem_filter.mpr ⟨List.mem_of_getElem? (i := 346) (by decide +kernel), rfl⟩
theorem ml_X5_33 : Cond.methodLink RX5 33 yX5_stateAfter ∈ bigW := List.mem_filter.mpr ⟨List.mem_of_getElem? (i := 347) (by decide +kernel), rfl⟩
theorem im_X5_stateAfter : Cond.instanceMethod yX5_stateAfter ∈ bigW := List.mem_filter.mpr ⟨List.mem_of_getElem? (i := 349) (by decide +kernel), rfl⟩
theorem co_X5_stateAfter : Cond.code yX5_stateAfter cX5_stateAfter 3 (some (FieldType.int)) ∈ bigW := List.mem_filter.mpr ⟨List.mem_of_getElem? (i := 350) (by decide +kernel), rfl⟩
theorem ml_X5_37 : Cond.methodLink RX5 37 yX5_beginWord ∈ bigW := List.mem_filter.mpr ⟨List.mem_of_getElem? (i := 351) (by decide +kernel), rfl⟩
theorem im_X5_beginWord : Cond.instanceMethod yX5_beginWord ∈ bigW := List.mem_filter.mpr ⟨List.mem_of_getElem? (i := 353) (by decide +kernel), rfl⟩
theorem co_X5_beginWord : Cond.code yX5_beginWord cX5_beginWord 1 (some (FieldType.int)) ∈ bigW := List.mem_filter.mpr ⟨List.mem_of_getElem? (i := 354) (by decide +kernel), rfl⟩
theorem ml_X5_41 : Cond.methodLink RX5 41 yX5_takeKind ∈ bigW := List.mem_filter.mpr ⟨List.mem_of_getElem? (i := 355) (by decide +kernel), rfl⟩
theorem im_X5_takeKind : Cond.instanceMethod yX5_takeKind ∈ bigW := List.mem_filter.mpr ⟨List.mem_of_getElem? (i := 357) (by decide +kernel), rfl⟩
theorem co_X5_takeKind : Cond.code yX5_takeKind cX5_takeKind 3 (some (FieldType.int)) ∈ bigW := List.mem_filter.mpr ⟨List.mem_of_getElem? (i := 358) (by decide +kernel), rfl⟩
theorem ml_X5_45 : Cond.methodLink RX5 45 yX5_takeLetter ∈ bigW := List.mem_filter.mpr ⟨List.mem_of_getElem? (i := 359) (by decide +kernel), rfl⟩
theorem im_X5_takeLetter : Cond.instanceMethod yX5_takeLetter ∈ bigW := List.mem_filter.mpr ⟨List.mem_of_getElem? (i := 361) (by decide +kernel), rfl⟩
theorem co_X5_takeLetter : Cond.code yX5_takeLetter cX5_takeLetter 3 (some (FieldType.int)) ∈ bigW := List.mem_filter.mpr ⟨List.mem_of_getElem? (i := 362) (by decide +kernel), rfl⟩
theorem ml_X7_106 : Cond.methodLink RX7 106 yX7_takeText ∈ bigW := List.mem_filter.mpr ⟨List.mem_of_getElem? (i := 363) (by decide +kernel), rfl⟩
theorem im_X7_takeText : Cond.instanceMethod yX7_takeText ∈ bigW := List.mem_filter.mpr ⟨List.mem_of_getElem? (i := 365) (by decide +kernel), rfl⟩
theorem co_X7_takeText : Cond.code yX7_takeText cX7_takeText 2 none ∈ bigW := List.mem_filter.mpr ⟨List.mem_of_getElem? (i := 366) (by decide +kernel), rfl⟩
theorem ml_L_18 : Cond.methodLink RL 18 yX7_ofWord ∈ bigW := List.mem_filter.mpr ⟨List.mem_of_getElem? (i := 367) (by decide +kernel), rfl⟩
theorem im_X7_ofWord : Cond.instanceMethod yX7_ofWord ∈ bigW := List.mem_filter.mpr ⟨List.mem_of_getElem? (i := 368) (by decide +kernel), rfl⟩
theorem se_X7_ofWord : Cond.selects RX7 yX7_ofWord yX7_ofWord ∈ bigW := List.mem_filter.mpr ⟨List.mem_of_getElem? (i := 369) (by decide +kernel), rfl⟩
theorem co_X7_ofWord : Cond.code yX7_ofWord cX7_ofWord 5 (some (FieldType.int)) ∈ bigW := List.mem_filter.mpr ⟨List.mem_of_getElem? (i := 370) (by decide +kernel), rfl⟩
theorem ml_X7_112 : Cond.methodLink RX7 112 yX7_isWord ∈ bigW := List.mem_filter.mpr ⟨List.mem_of_getElem? (i := 371) (by decide +kernel), rfl⟩
theorem im_X7_isWord : Cond.instanceMethod yX7_isWord ∈ bigW := List.mem_filter.mpr ⟨List.mem_of_getElem? (i := 373) (by decide +kernel), rfl⟩
theorem co_X7_isWord : Cond.code yX7_isWord cX7_isWord 2 (some (FieldType.boolean)) ∈ bigW := List.mem_filter.mpr ⟨List.mem_of_getElem? (i := 374) (by decide +kernel), rfl⟩
theorem ml_X7_121 : Cond.methodLink RX7 121 yX6_unlikeForms ∈ bigW := List.mem_filter.mpr ⟨List.mem_of_getElem? (i := 375) (by decide +kernel), rfl⟩
theorem im_X6_unlikeForms : Cond.instanceMethod yX6_unlikeForms ∈ bigW := List.mem_filter.mpr ⟨List.mem_of_getElem? (i := 376) (by decide +kernel), rfl⟩
theorem se_X6_unlikeForms : Cond.selects RX6 yX6_unlikeForms yX6_unlikeForms ∈ bigW := List.mem_filter.mpr ⟨List.mem_of_getElem? (i := 377) (by decide +kernel), rfl⟩
theorem co_X6_unlikeForms : Cond.code yX6_unlikeForms cX6_unlikeForms 2 (some (FieldType.int)) ∈ bigW := List.mem_filter.mpr ⟨List.mem_of_getElem? (i := 378) (by decide +kernel), rfl⟩
theorem ml_X6_28 : Cond.methodLink RX6 28 yX6_letterOf ∈ bigW := List.mem_filter.mpr ⟨List.mem_of_getElem? (i := 379) (by decide +kernel), rfl⟩
theorem im_X6_letterOf : Cond.instanceMethod yX6_letterOf ∈ bigW := List.mem_filter.mpr ⟨List.mem_of_getElem? (i := 380) (by decide +kernel), rfl⟩
theorem se_X6_letterOf : Cond.selects RX6 yX6_letterOf yX6_letterOf ∈ bigW := List.mem_filter.mpr ⟨List.mem_of_getElem? (i := 381) (by decide +kernel), rfl⟩
theorem co_X6_letterOf : Cond.code yX6_letterOf cX6_letterOf 3 (some (FieldType.int)) ∈ bigW := List.mem_filter.mpr ⟨List.mem_of_getElem? (i := 382) (by decide +kernel), rfl⟩
theorem ml_X7_128 : Cond.methodLink RX7 128 yX6_timesIn ∈ bigW := List.mem_filter.mpr ⟨List.mem_of_getElem? (i := 383) (by decide +kernel), rfl⟩
theorem im_X6_timesIn : Cond.instanceMethod yX6_timesIn ∈ bigW := List.mem_filter.mpr ⟨List.mem_of_getElem? (i := 384) (by decide +kernel), rfl⟩
theorem se_X6_timesIn : Cond.selects RX6 yX6_timesIn yX6_timesIn ∈ bigW := List.mem_filter.mpr ⟨List.mem_of_getElem? (i := 385) (by decide +kernel), rfl⟩
theorem co_X6_timesIn : Cond.code yX6_timesIn cX6_timesIn 5 (some (FieldType.int)) ∈ bigW := List.mem_filter.mpr ⟨List.mem_of_getElem? (i := 386) (by decide +kernel), rfl⟩
theorem ml_X6_36 : Cond.methodLink RX6 36 yX6_endsAt ∈ bigW := List.mem_filter.mpr ⟨List.mem_of_getElem? (i := 387) (by decide +kernel), rfl⟩
theorem im_X6_endsAt : Cond.instanceMethod yX6_endsAt ∈ bigW := List.mem_filter.mpr ⟨List.mem_of_getElem? (i := 388) (by decide +kernel), rfl⟩
theorem se_X6_endsAt : Cond.selects RX6 yX6_endsAt yX6_endsAt ∈ bigW := List.mem_filter.mpr ⟨List.mem_of_getElem? (i := 389) (by decide +kernel), rfl⟩
theorem co_X6_endsAt : Cond.code yX6_endsAt cX6_endsAt 3 (some (FieldType.boolean)) ∈ bigW := List.mem_filter.mpr ⟨List.mem_of_getElem? (i := 390) (by decide +kernel), rfl⟩
theorem ml_X6_32 : Cond.methodLink RX6 32 yX6_formEndsAt ∈ bigW := List.mem_filter.mpr ⟨List.mem_of_getElem? (i := 391) (by decide +kernel), rfl⟩
theorem im_X6_formEndsAt : Cond.instanceMethod yX6_formEndsAt ∈ bigW := List.mem_filter.mpr ⟨List.mem_of_getElem? (i := 392) (by decide +kernel), rfl⟩
theorem se_X6_formEndsAt : Cond.selects RX6 yX6_formEndsAt yX6_formEndsAt ∈ bigW := List.mem_filter.mpr ⟨List.mem_of_getElem? (i := 393) (by decide +kernel), rfl⟩
theorem co_X6_formEndsAt : Cond.code yX6_formEndsAt cX6_formEndsAt 6 (some (FieldType.boolean)) ∈ bigW := List.mem_filter.mpr ⟨List.mem_of_getElem? (i := 394) (by decide +kernel), rfl⟩
theorem ml_L_23 : Cond.methodLink RL 23 yX7_spell ∈ bigW := List.mem_filter.mpr ⟨List.mem_of_getElem? (i := 395) (by decide +kernel), rfl⟩
theorem im_X7_spell : Cond.instanceMethod yX7_spell ∈ bigW := List.mem_filter.mpr ⟨List.mem_of_getElem? (i := 396) (by decide +kernel), rfl⟩
theorem se_X7_spell : Cond.selects RX7 yX7_spell yX7_spell ∈ bigW := List.mem_filter.mpr ⟨List.mem_of_getElem? (i := 397) (by decide +kernel), rfl⟩
theorem co_X7_spell : Cond.code yX7_spell cX7_spell 5 (some (FieldType.int)) ∈ bigW := List.mem_filter.mpr ⟨List.mem_of_getElem? (i := 398) (by decide +kernel), rfl⟩
theorem ml_L_28 : Cond.methodLink RL 28 yX7_say ∈ bigW := List.mem_filter.mpr ⟨List.mem_of_getElem? (i := 399) (by decide +kernel), rfl⟩
theorem im_X7_say : Cond.instanceMethod yX7_say ∈ bigW := List.mem_filter.mpr ⟨List.mem_of_getElem? (i := 400) (by decide +kernel), rfl⟩
theorem se_X7_say : Cond.selects RX7 yX7_say yX7_say ∈ bigW := List.mem_filter.mpr ⟨List.mem_of_getElem? (i := 401) (by decide +kernel), rfl⟩
theorem co_X7_say : Cond.code yX7_say cX7_say 2 (some (FieldType.int)) ∈ bigW := List.mem_filter.mpr ⟨List.mem_of_getElem? (i := 402) (by decide +kernel), rfl⟩
theorem ml_X7_135 : Cond.methodLink RX7 135 yX7_heardBy ∈ bigW := List.mem_filter.mpr ⟨List.mem_of_getElem? (i := 403) (by decide +kernel), rfl⟩
theorem st_X7_heardBy : Cond.static yX7_heardBy ∈ bigW := List.mem_filter.mpr ⟨List.mem_of_getElem? (i := 404) (by decide +kernel), rfl⟩
theorem co_X7_heardBy : Cond.code yX7_heardBy cX7_heardBy 6 (some (FieldType.int)) ∈ bigW := List.mem_filter.mpr ⟨List.mem_of_getElem? (i := 405) (by decide +kernel), rfl⟩
theorem ml_X7_266 : Cond.methodLink RX7 266 yX6_endsAt ∈ bigW := List.mem_filter.mpr ⟨List.mem_of_getElem? (i := 406) (by decide +kernel), rfl⟩
theorem ml_L_33 : Cond.methodLink RL 33 yX7_hush ∈ bigW := List.mem_filter.mpr ⟨List.mem_of_getElem? (i := 407) (by decide +kernel), rfl⟩
theorem im_X7_hush : Cond.instanceMethod yX7_hush ∈ bigW := List.mem_filter.mpr ⟨List.mem_of_getElem? (i := 408) (by decide +kernel), rfl⟩
theorem se_X7_hush : Cond.selects RX7 yX7_hush yX7_hush ∈ bigW := List.mem_filter.mpr ⟨List.mem_of_getElem? (i := 409) (by decide +kernel), rfl⟩
theorem co_X7_hush : Cond.code yX7_hush cX7_hush 2 (some (FieldType.int)) ∈ bigW := List.mem_filter.mpr ⟨List.mem_of_getElem? (i := 410) (by decide +kernel), rfl⟩
theorem ml_L_38 : Cond.methodLink RL 38 yX7_row ∈ bigW := List.mem_filter.mpr ⟨List.mem_of_getElem? (i := 411) (by decide +kernel), rfl⟩
theorem im_X7_row : Cond.instanceMethod yX7_row ∈ bigW := List.mem_filter.mpr ⟨List.mem_of_getElem? (i := 412) (by decide +kernel), rfl⟩
theorem se_X7_row : Cond.selects RX7 yX7_row yX7_row ∈ bigW := List.mem_filter.mpr ⟨List.mem_of_getElem? (i := 413) (by decide +kernel), rfl⟩
theorem co_X7_row : Cond.code yX7_row cX7_row 8 (some (FieldType.int)) ∈ bigW := List.mem_filter.mpr ⟨List.mem_of_getElem? (i := 414) (by decide +kernel), rfl⟩
theorem ml_X7_139 : Cond.methodLink RX7 139 yX7_isOfRow ∈ bigW := List.mem_filter.mpr ⟨List.mem_of_getElem? (i := 415) (by decide +kernel), rfl⟩
theorem st_X7_isOfRow : Cond.static yX7_isOfRow ∈ bigW := List.mem_filter.mpr ⟨List.mem_of_getElem? (i := 416) (by decide +kernel), rfl⟩
theorem co_X7_isOfRow : Cond.code yX7_isOfRow cX7_isOfRow 1 (some (FieldType.boolean)) ∈ bigW := List.mem_filter.mpr ⟨List.mem_of_getElem? (i := 417) (by decide +kernel), rfl⟩
theorem ml_X7_142 : Cond.methodLink RX7 142 yX4_lettersTo ∈ bigW := List.mem_filter.mpr ⟨List.mem_of_getElem? (i := 418) (by decide +kernel), rfl⟩
theorem im_X4_lettersTo : Cond.instanceMethod yX4_lettersTo ∈ bigW := List.mem_filter.mpr ⟨List.mem_of_getElem? (i := 419) (by decide +kernel), rfl⟩
theorem se_X4_lettersTo : Cond.selects RX4 yX4_lettersTo yX4_lettersTo ∈ bigW := List.mem_filter.mpr ⟨List.mem_of_getElem? (i := 420) (by decide +kernel), rfl⟩
theorem co_X4_lettersTo : Cond.code yX4_lettersTo cX4_lettersTo 5 (some (FieldType.boolean)) ∈ bigW := List.mem_filter.mpr ⟨List.mem_of_getElem? (i := 421) (by decide +kernel), rfl⟩
theorem mn_X4_40 : Cond.methodLinkNest RX4 40 yX7_isBelow RX7 ∈ bigW := List.mem_filter.mpr ⟨List.mem_of_getElem? (i := 422) (by decide +kernel), rfl⟩
theorem ml_X7_146 : Cond.methodLink RX7 146 yX7_heardInTold ∈ bigW := List.mem_filter.mpr ⟨List.mem_of_getElem? (i := 423) (by decide +kernel), rfl⟩
theorem im_X7_heardInTold : Cond.instanceMethod yX7_heardInTold ∈ bigW := List.mem_filter.mpr ⟨List.mem_of_getElem? (i := 425) (by decide +kernel), rfl⟩
theorem co_X7_heardInTold : Cond.code yX7_heardInTold cX7_heardInTold 10 (some (FieldType.int)) ∈ bigW := List.mem_filter.mpr ⟨List.mem_of_getElem? (i := 426) (by decide +kernel), rfl⟩
theorem ml_X7_270 : Cond.methodLink RX7 270 yJ6_bitCount_0f7a4 ∈ bigW := List.mem_filter.mpr ⟨List.mem_of_getElem? (i := 427) (by decide +kernel), rfl⟩
theorem st_J6_bitCount_0f7a4 : Cond.static yJ6_bitCount_0f7a4 ∈ bigW := List.mem_filter.mpr ⟨List.mem_of_getElem? (i := 428) (by decide +kernel), rfl⟩
theorem co_J6_bitCount_0f7a4 : Cond.code yJ6_bitCount_0f7a4 cJ6_bitCount_0f7a4 1 (some (FieldType.int)) ∈ bigW := List.mem_filter.mpr ⟨List.mem_of_getElem? (i := 429) (by decide +kernel), rfl⟩
theorem ct_J6_265 : Cond.constant RJ6 265 (1431655765) ∈ bigW := List.mem_filter.mpr ⟨List.mem_of_getElem? (i := 430) (by decide +kernel), rfl⟩
theorem ct_J6_266 : Cond.constant RJ6 266 (858993459) ∈ bigW := List.mem_filter.mpr ⟨List.mem_of_getElem? (i := 431) (by decide +kernel), rfl⟩
theorem ct_J6_267 : Cond.constant RJ6 267 (252645135) ∈ bigW := List.mem_filter.mpr ⟨List.mem_of_getElem? (i := 432) (by decide +kernel), rfl⟩
theorem ml_L_43 : Cond.methodLink RL 43 yX7_over ∈ bigW := List.mem_filter.mpr ⟨List.mem_of_getElem? (i := 433) (by decide +kernel), rfl⟩
theorem im_X7_over : Cond.instanceMethod yX7_over ∈ bigW := List.mem_filter.mpr ⟨List.mem_of_getElem? (i := 434) (by decide +kernel), rfl⟩
theorem se_X7_over : Cond.selects RX7 yX7_over yX7_over ∈ bigW := List.mem_filter.mpr ⟨List.mem_of_getElem? (i := 435) (by decide +kernel), rfl⟩
theorem co_X7_over : Cond.code yX7_over cX7_over 3 (some (FieldType.int)) ∈ bigW := List.mem_filter.mpr ⟨List.mem_of_getElem? (i := 436) (by decide +kernel), rfl⟩
theorem ml_X7_150 : Cond.methodLink RX7 150 yX6_lettersOver ∈ bigW := List.mem_filter.mpr ⟨List.mem_of_getElem? (i := 437) (by decide +kernel), rfl⟩
theorem im_X6_lettersOver : Cond.instanceMethod yX6_lettersOver ∈ bigW := List.mem_filter.mpr ⟨List.mem_of_getElem? (i := 438) (by decide +kernel), rfl⟩
theorem se_X6_lettersOver : Cond.selects RX6 yX6_lettersOver yX6_lettersOver ∈ bigW := List.mem_filter.mpr ⟨List.mem_of_getElem? (i := 439) (by decide +kernel), rfl⟩
theorem co_X6_lettersOver : Cond.code yX6_lettersOver cX6_lettersOver 3 (some (FieldType.int)) ∈ bigW := List.mem_filter.mpr ⟨List.mem_of_getElem? (i := 440) (by decide +kernel), rfl⟩
theorem ml_X6_40 : Cond.methodLink RX6 40 yJ9_min_7cf53 ∈ bigW := List.mem_filter.mpr ⟨List.mem_of_getElem? (i := 441) (by decide +kernel), rfl⟩
theorem st_J9_min_7cf53 : Cond.static yJ9_min_7cf53 ∈ bigW := List.mem_filter.mpr ⟨List.mem_of_getElem? (i := 442) (by decide +kernel), rfl⟩
theorem co_J9_min_7cf53 : Cond.code yJ9_min_7cf53 cJ9_min_7cf53 2 (some (FieldType.int)) ∈ bigW := List.mem_filter.mpr ⟨List.mem_of_getElem? (i := 443) (by decide +kernel), rfl⟩
theorem ml_X6_45 : Cond.methodLink RX6 45 yX6_liesOver ∈ bigW := List.mem_filter.mpr ⟨List.mem_of_getElem? (i := 444) (by decide +kernel), rfl⟩
theorem im_X6_liesOver : Cond.instanceMethod yX6_liesOver ∈ bigW := List.mem_filter.mpr ⟨List.mem_of_getElem? (i := 446) (by decide +kernel), rfl⟩
theorem co_X6_liesOver : Cond.code yX6_liesOver cX6_liesOver 4 (some (FieldType.boolean)) ∈ bigW := List.mem_filter.mpr ⟨List.mem_of_getElem? (i := 447) (by decide +kernel), rfl⟩
theorem ml_L_47 : Cond.methodLink RL 47 yX7_all ∈ bigW := List.mem_filter.mpr ⟨List.mem_of_getElem? (i := 448) (by decide +kernel), rfl⟩
theorem im_X7_all : Cond.instanceMethod yX7_all ∈ bigW := List.mem_filter.mpr ⟨List.mem_of_getElem? (i := 449) (by decide +kernel), rfl⟩
theorem se_X7_all : Cond.selects RX7 yX7_all yX7_all ∈ bigW := List.mem_filter.mpr ⟨List.mem_of_getElem? (i := 450) (by decide +kernel), rfl⟩
theorem co_X7_all : Cond.code yX7_all cX7_all 2 (some (FieldType.int)) ∈ bigW := List.mem_filter.mpr ⟨List.mem_of_getElem? (i := 451) (by decide +kernel), rfl⟩
theorem ml_X7_154 : Cond.methodLink RX7 154 yX7_renewNet ∈ bigW := List.mem_filter.mpr ⟨List.mem_of_getElem? (i := 452) (by decide +kernel), rfl⟩
theorem im_X7_renewNet : Cond.instanceMethod yX7_renewNet ∈ bigW := List.mem_filter.mpr ⟨List.mem_of_getElem? (i := 454) (by decide +kernel), rfl⟩
theorem co_X7_renewNet : Cond.code yX7_renewNet cX7_renewNet 1 none ∈ bigW := List.mem_filter.mpr ⟨List.mem_of_getElem? (i := 455) (by decide +kernel), rfl⟩
theorem ml_X7_255 : Cond.methodLink RX7 255 yX1_learn ∈ bigW := List.mem_filter.mpr ⟨List.mem_of_getElem? (i := 456) (by decide +kernel), rfl⟩
theorem im_X1_learn : Cond.instanceMethod yX1_learn ∈ bigW := List.mem_filter.mpr ⟨List.mem_of_getElem? (i := 457) (by decide +kernel), rfl⟩
theorem se_X1_learn : Cond.selects RX1 yX1_learn yX1_learn ∈ bigW := List.mem_filter.mpr ⟨List.mem_of_getElem? (i := 458) (by decide +kernel), rfl⟩
theorem co_X1_learn : Cond.code yX1_learn cX1_learn 6 none ∈ bigW := List.mem_filter.mpr ⟨List.mem_of_getElem? (i := 459) (by decide +kernel), rfl⟩
theorem ml_X1_36 : Cond.methodLink RX1 36 yX1_markStays ∈ bigW := List.mem_filter.mpr ⟨List.mem_of_getElem? (i := 460) (by decide +kernel), rfl⟩
theorem im_X1_markStays : Cond.instanceMethod yX1_markStays ∈ bigW := List.mem_filter.mpr ⟨List.mem_of_getElem? (i := 462) (by decide +kernel), rfl⟩
theorem co_X1_markStays : Cond.code yX1_markStays cX1_markStays 5 none ∈ bigW := List.mem_filter.mpr ⟨List.mem_of_getElem? (i := 463) (by decide +kernel), rfl⟩
theorem ml_X1_51 : Cond.methodLink RX1 51 yX1_markBeginnings ∈ bigW := List.mem_filter.mpr ⟨List.mem_of_getElem? (i := 464) (by decide +kernel), rfl⟩
theorem im_X1_markBeginnings : Cond.instanceMethod yX1_markBeginnings ∈ bigW := List.mem_filter.mpr ⟨List.mem_of_getElem? (i := 466) (by decide +kernel), rfl⟩
theorem co_X1_markBeginnings : Cond.code yX1_markBeginnings cX1_markBeginnings 5 none ∈ bigW := List.mem_filter.mpr ⟨List.mem_of_getElem? (i := 467) (by decide +kernel), rfl⟩
theorem ml_X1_60 : Cond.methodLink RX1 60 yX6_letterOf ∈ bigW := List.mem_filter.mpr ⟨List.mem_of_getElem? (i := 468) (by decide +kernel), rfl⟩
theorem ml_X1_40 : Cond.methodLink RX1 40 yX1_layTrail ∈ bigW := List.mem_filter.mpr ⟨List.mem_of_getElem? (i := 469) (by decide +kernel), rfl⟩
theorem im_X1_layTrail : Cond.instanceMethod yX1_layTrail ∈ bigW := List.mem_filter.mpr ⟨List.mem_of_getElem? (i := 471) (by decide +kernel), rfl⟩
theorem co_X1_layTrail : Cond.code yX1_layTrail cX1_layTrail 5 (some (FieldType.int)) ∈ bigW := List.mem_filter.mpr ⟨List.mem_of_getElem? (i := 472) (by decide +kernel), rfl⟩
theorem mn_X1_44 : Cond.methodLinkNest RX1 44 yX7_heardBy RX7 ∈ bigW := List.mem_filter.mpr ⟨List.mem_of_getElem? (i := 473) (by decide +kernel), rfl⟩
theorem ml_X1_48 : Cond.methodLink RX1 48 yX1_stayAt ∈ bigW := List.mem_filter.mpr ⟨List.mem_of_getElem? (i := 474) (by decide +kernel), rfl⟩
theorem im_X1_stayAt : Cond.instanceMethod yX1_stayAt ∈ bigW := List.mem_filter.mpr ⟨List.mem_of_getElem? (i := 476) (by decide +kernel), rfl⟩
theorem co_X1_stayAt : Cond.code yX1_stayAt cX1_stayAt 4 (some (FieldType.int)) ∈ bigW := List.mem_filter.mpr ⟨List.mem_of_getElem? (i := 477) (by decide +kernel), rfl⟩
theorem ml_X7_259 : Cond.methodLink RX7 259 yX2_lay ∈ bigW := List.mem_filter.mpr ⟨List.mem_of_getElem? (i := 478) (by decide +kernel), rfl⟩
theorem im_X2_lay : Cond.instanceMethod yX2_lay ∈ bigW := List.mem_filter.mpr ⟨List.mem_of_getElem? (i := 479) (by decide +kernel), rfl⟩
theorem se_X2_lay : Cond.selects RX2 yX2_lay yX2_lay ∈ bigW := List.mem_filter.mpr ⟨List.mem_of_getElem? (i := 480) (by decide +kernel), rfl⟩
theorem co_X2_lay : Cond.code yX2_lay cX2_lay 4 none ∈ bigW := List.mem_filter.mpr ⟨List.mem_of_getElem? (i := 481) (by decide +kernel), rfl⟩
theorem ml_X2_29 : Cond.methodLink RX2 29 yJ7_fill_53178 ∈ bigW := List.mem_filter.mpr ⟨List.mem_of_getElem? (i := 482) (by decide +kernel), rfl⟩
theorem st_J7_fill_53178 : Cond.static yJ7_fill_53178 ∈ bigW := List.mem_filter.mpr ⟨List.mem_of_getElem? (i := 483) (by decide +kernel), rfl⟩
theorem co_J7_fill_53178 : Cond.code yJ7_fill_53178 cJ7_fill_53178 4 none ∈ bigW := List.mem_filter.mpr ⟨List.mem_of_getElem? (i := 484) (by decide +kernel), rfl⟩
theorem ml_X2_39 : Cond.methodLink RX2 39 yX2_find ∈ bigW := List.mem_filter.mpr ⟨List.mem_of_getElem? (i := 485) (by decide +kernel), rfl⟩
theorem im_X2_find : Cond.instanceMethod yX2_find ∈ bigW := List.mem_filter.mpr ⟨List.mem_of_getElem? (i := 487) (by decide +kernel), rfl⟩
theorem co_X2_find : Cond.code yX2_find cX2_find 3 (some (FieldType.int)) ∈ bigW := List.mem_filter.mpr ⟨List.mem_of_getElem? (i := 488) (by decide +kernel), rfl⟩
theorem ml_X2_50 : Cond.methodLink RX2 50 yJ9_max_7cf53 ∈ bigW := List.mem_filter.mpr ⟨List.mem_of_getElem? (i := 489) (by decide +kernel), rfl⟩
theorem st_J9_max_7cf53 : Cond.static yJ9_max_7cf53 ∈ bigW := List.mem_filter.mpr ⟨List.mem_of_getElem? (i := 490) (by decide +kernel), rfl⟩
theorem co_J9_max_7cf53 : Cond.code yJ9_max_7cf53 cJ9_max_7cf53 2 (some (FieldType.int)) ∈ bigW := List.mem_filter.mpr ⟨List.mem_of_getElem? (i := 491) (by decide +kernel), rfl⟩
theorem ml_X2_43 : Cond.methodLink RX2 43 yX2_pointAfter ∈ bigW := List.mem_filter.mpr ⟨List.mem_of_getElem? (i := 492) (by decide +kernel), rfl⟩
theorem im_X2_pointAfter : Cond.instanceMethod yX2_pointAfter ∈ bigW := List.mem_filter.mpr ⟨List.mem_of_getElem? (i := 494) (by decide +kernel), rfl⟩
theorem co_X2_pointAfter : Cond.code yX2_pointAfter cX2_pointAfter 7 (some (FieldType.int)) ∈ bigW := List.mem_filter.mpr ⟨List.mem_of_getElem? (i := 495) (by decide +kernel), rfl⟩
theorem ml_X2_61 : Cond.methodLink RX2 61 yX1_behind ∈ bigW := List.mem_filter.mpr ⟨List.mem_of_getElem? (i := 496) (by decide +kernel), rfl⟩
theorem ml_X2_58 : Cond.methodLink RX2 58 yX2_layShortestRow ∈ bigW := List.mem_filter.mpr ⟨List.mem_of_getElem? (i := 497) (by decide +kernel), rfl⟩
theorem im_X2_layShortestRow : Cond.instanceMethod yX2_layShortestRow ∈ bigW := List.mem_filter.mpr ⟨List.mem_of_getElem? (i := 499) (by decide +kernel), rfl⟩
theorem co_X2_layShortestRow : Cond.code yX2_layShortestRow cX2_layShortestRow 3 none ∈ bigW := List.mem_filter.mpr ⟨List.mem_of_getElem? (i := 500) (by decide +kernel), rfl⟩
theorem ml_X7_263 : Cond.methodLink RX7 263 yX0_begin ∈ bigW := List.mem_filter.mpr ⟨List.mem_of_getElem? (i := 501) (by decide +kernel), rfl⟩
theorem im_X0_begin : Cond.instanceMethod yX0_begin ∈ bigW := List.mem_filter.mpr ⟨List.mem_of_getElem? (i := 502) (by decide +kernel), rfl⟩
theorem se_X0_begin : Cond.selects RX0 yX0_begin yX0_begin ∈ bigW := List.mem_filter.mpr ⟨List.mem_of_getElem? (i := 503) (by decide +kernel), rfl⟩
theorem co_X0_begin : Cond.code yX0_begin cX0_begin 2 none ∈ bigW := List.mem_filter.mpr ⟨List.mem_of_getElem? (i := 504) (by decide +kernel), rfl⟩
theorem ml_X0_26 : Cond.methodLink RX0 26 yJ7_fill_d0a16 ∈ bigW := List.mem_filter.mpr ⟨List.mem_of_getElem? (i := 505) (by decide +kernel), rfl⟩
theorem st_J7_fill_d0a16 : Cond.static yJ7_fill_d0a16 ∈ bigW := List.mem_filter.mpr ⟨List.mem_of_getElem? (i := 506) (by decide +kernel), rfl⟩
theorem co_J7_fill_d0a16 : Cond.code yJ7_fill_d0a16 cJ7_fill_d0a16 5 none ∈ bigW := List.mem_filter.mpr ⟨List.mem_of_getElem? (i := 507) (by decide +kernel), rfl⟩
theorem ml_X0_36 : Cond.methodLink RX0 36 yX0_addUp ∈ bigW := List.mem_filter.mpr ⟨List.mem_of_getElem? (i := 508) (by decide +kernel), rfl⟩
theorem im_X0_addUp : Cond.instanceMethod yX0_addUp ∈ bigW := List.mem_filter.mpr ⟨List.mem_of_getElem? (i := 510) (by decide +kernel), rfl⟩
theorem co_X0_addUp : Cond.code yX0_addUp cX0_addUp 5 none ∈ bigW := List.mem_filter.mpr ⟨List.mem_of_getElem? (i := 511) (by decide +kernel), rfl⟩
theorem ml_X0_50 : Cond.methodLink RX0 50 yX2_isSilent ∈ bigW := List.mem_filter.mpr ⟨List.mem_of_getElem? (i := 512) (by decide +kernel), rfl⟩
theorem im_X2_isSilent : Cond.instanceMethod yX2_isSilent ∈ bigW := List.mem_filter.mpr ⟨List.mem_of_getElem? (i := 513) (by decide +kernel), rfl⟩
theorem se_X2_isSilent : Cond.selects RX2 yX2_isSilent yX2_isSilent ∈ bigW := List.mem_filter.mpr ⟨List.mem_of_getElem? (i := 514) (by decide +kernel), rfl⟩
theorem co_X2_isSilent : Cond.code yX2_isSilent cX2_isSilent 2 (some (FieldType.boolean)) ∈ bigW := List.mem_filter.mpr ⟨List.mem_of_getElem? (i := 515) (by decide +kernel), rfl⟩
theorem ml_L_51 : Cond.methodLink RL 51 yX7_have ∈ bigW := List.mem_filter.mpr ⟨List.mem_of_getElem? (i := 516) (by decide +kernel), rfl⟩
theorem im_X7_have : Cond.instanceMethod yX7_have ∈ bigW := List.mem_filter.mpr ⟨List.mem_of_getElem? (i := 517) (by decide +kernel), rfl⟩
theorem se_X7_have : Cond.selects RX7 yX7_have yX7_have ∈ bigW := List.mem_filter.mpr ⟨List.mem_of_getElem? (i := 518) (by decide +kernel), rfl⟩
theorem co_X7_have : Cond.code yX7_have cX7_have 2 (some (FieldType.long)) ∈ bigW := List.mem_filter.mpr ⟨List.mem_of_getElem? (i := 519) (by decide +kernel), rfl⟩
theorem ml_X7_159 : Cond.methodLink RX7 159 yX7_isCounted ∈ bigW := List.mem_filter.mpr ⟨List.mem_of_getElem? (i := 520) (by decide +kernel), rfl⟩
theorem st_X7_isCounted : Cond.static yX7_isCounted ∈ bigW := List.mem_filter.mpr ⟨List.mem_of_getElem? (i := 521) (by decide +kernel), rfl⟩
theorem co_X7_isCounted : Cond.code yX7_isCounted cX7_isCounted 1 (some (FieldType.boolean)) ∈ bigW := List.mem_filter.mpr ⟨List.mem_of_getElem? (i := 522) (by decide +kernel), rfl⟩
theorem ct_X7_162 : Cond.constantLong RX7 162 (-9223372036854775808) ∈ bigW := List.mem_filter.mpr ⟨List.mem_of_getElem? (i := 523) (by decide +kernel), rfl⟩
theorem ml_X7_164 : Cond.methodLink RX7 164 yX0_countTo ∈ bigW := List.mem_filter.mpr ⟨List.mem_of_getElem? (i := 524) (by decide +kernel), rfl⟩
theorem im_X0_countTo : Cond.instanceMethod yX0_countTo ∈ bigW := List.mem_filter.mpr ⟨List.mem_of_getElem? (i := 525) (by decide +kernel), rfl⟩
theorem se_X0_countTo : Cond.selects RX0 yX0_countTo yX0_countTo ∈ bigW := List.mem_filter.mpr ⟨List.mem_of_getElem? (i := 526) (by decide +kernel), rfl⟩
theorem co_X0_countTo : Cond.code yX0_countTo cX0_countTo 3 none ∈ bigW := List.mem_filter.mpr ⟨List.mem_of_getElem? (i := 527) (by decide +kernel), rfl⟩
theorem ml_X0_40 : Cond.methodLink RX0 40 yX0_addLetter ∈ bigW := List.mem_filter.mpr ⟨List.mem_of_getElem? (i := 528) (by decide +kernel), rfl⟩
theorem im_X0_addLetter : Cond.instanceMethod yX0_addLetter ∈ bigW := List.mem_filter.mpr ⟨List.mem_of_getElem? (i := 530) (by decide +kernel), rfl⟩
theorem co_X0_addLetter : Cond.code yX0_addLetter cX0_addLetter 6 none ∈ bigW := List.mem_filter.mpr ⟨List.mem_of_getElem? (i := 531) (by decide +kernel), rfl⟩
theorem ml_L_56 : Cond.methodLink RL 56 yX7_free ∈ bigW := List.mem_filter.mpr ⟨List.mem_of_getElem? (i := 532) (by decide +kernel), rfl⟩
theorem im_X7_free : Cond.instanceMethod yX7_free ∈ bigW := List.mem_filter.mpr ⟨List.mem_of_getElem? (i := 533) (by decide +kernel), rfl⟩
theorem se_X7_free : Cond.selects RX7 yX7_free yX7_free ∈ bigW := List.mem_filter.mpr ⟨List.mem_of_getElem? (i := 534) (by decide +kernel), rfl⟩
theorem co_X7_free : Cond.code yX7_free cX7_free 2 (some (FieldType.long)) ∈ bigW := List.mem_filter.mpr ⟨List.mem_of_getElem? (i := 535) (by decide +kernel), rfl⟩
theorem ml_L_60 : Cond.methodLink RL 60 yX7_longest ∈ bigW := List.mem_filter.mpr ⟨List.mem_of_getElem? (i := 536) (by decide +kernel), rfl⟩
theorem im_X7_longest : Cond.instanceMethod yX7_longest ∈ bigW := List.mem_filter.mpr ⟨List.mem_of_getElem? (i := 537) (by decide +kernel), rfl⟩
theorem se_X7_longest : Cond.selects RX7 yX7_longest yX7_longest ∈ bigW := List.mem_filter.mpr ⟨List.mem_of_getElem? (i := 538) (by decide +kernel), rfl⟩
theorem co_X7_longest : Cond.code yX7_longest cX7_longest 1 (some (FieldType.int)) ∈ bigW := List.mem_filter.mpr ⟨List.mem_of_getElem? (i := 539) (by decide +kernel), rfl⟩
theorem ml_X7_175 : Cond.methodLink RX7 175 yX1_longestSilent ∈ bigW := List.mem_filter.mpr ⟨List.mem_of_getElem? (i := 540) (by decide +kernel), rfl⟩
theorem im_X1_longestSilent : Cond.instanceMethod yX1_longestSilent ∈ bigW := List.mem_filter.mpr ⟨List.mem_of_getElem? (i := 541) (by decide +kernel), rfl⟩
theorem se_X1_longestSilent : Cond.selects RX1 yX1_longestSilent yX1_longestSilent ∈ bigW := List.mem_filter.mpr ⟨List.mem_of_getElem? (i := 542) (by decide +kernel), rfl⟩
theorem co_X1_longestSilent : Cond.code yX1_longestSilent cX1_longestSilent 4 (some (FieldType.int)) ∈ bigW := List.mem_filter.mpr ⟨List.mem_of_getElem? (i := 543) (by decide +kernel), rfl⟩
theorem ml_X1_63 : Cond.methodLink RX1 63 yX1_silentlyReachedFrom ∈ bigW := List.mem_filter.mpr ⟨List.mem_of_getElem? (i := 544) (by decide +kernel), rfl⟩
theorem im_X1_silentlyReachedFrom : Cond.instanceMethod yX1_silentlyReachedFrom ∈ bigW := List.mem_filter.mpr ⟨List.mem_of_getElem? (i := 546) (by decide +kernel), rfl⟩
theorem co_X1_silentlyReachedFrom : Cond.code yX1_silentlyReachedFrom cX1_silentlyReachedFrom 8 (some (FieldType.long)) ∈ bigW := List.mem_filter.mpr ⟨List.mem_of_getElem? (i := 547) (by decide +kernel), rfl⟩
theorem ml_L_64 : Cond.methodLink RL 64 yX7_spare ∈ bigW := List.mem_filter.mpr ⟨List.mem_of_getElem? (i := 548) (by decide +kernel), rfl⟩
theorem im_X7_spare : Cond.instanceMethod yX7_spare ∈ bigW := List.mem_filter.mpr ⟨List.mem_of_getElem? (i := 549) (by decide +kernel), rfl⟩
theorem se_X7_spare : Cond.selects RX7 yX7_spare yX7_spare ∈ bigW := List.mem_filter.mpr ⟨List.mem_of_getElem? (i := 550) (by decide +kernel), rfl⟩
theorem co_X7_spare : Cond.code yX7_spare cX7_spare 4 (some (FieldType.int)) ∈ bigW := List.mem_filter.mpr ⟨List.mem_of_getElem? (i := 551) (by decide +kernel), rfl⟩
theorem ml_X7_178 : Cond.methodLink RX7 178 yX7_standsInEachForm ∈ bigW := List.mem_filter.mpr ⟨List.mem_of_getElem? (i := 552) (by decide +kernel), rfl⟩
theorem im_X7_standsInEachForm : Cond.instanceMethod yX7_standsInEachForm ∈ bigW := List.mem_filter.mpr ⟨List.mem_of_getElem? (i := 554) (by decide +kernel), rfl⟩
theorem co_X7_standsInEachForm : Cond.code yX7_standsInEachForm cX7_standsInEachForm 5 (some (FieldType.boolean)) ∈ bigW := List.mem_filter.mpr ⟨List.mem_of_getElem? (i := 555) (by decide +kernel), rfl⟩
theorem ml_X7_275 : Cond.methodLink RX7 275 yX6_letterOf ∈ bigW := List.mem_filter.mpr ⟨List.mem_of_getElem? (i := 556) (by decide +kernel), rfl⟩
theorem ml_X7_278 : Cond.methodLink RX7 278 yX6_standsIn ∈ bigW := List.mem_filter.mpr ⟨List.mem_of_getElem? (i := 557) (by decide +kernel), rfl⟩
theorem im_X6_standsIn : Cond.instanceMethod yX6_standsIn ∈ bigW := List.mem_filter.mpr ⟨List.mem_of_getElem? (i := 558) (by decide +kernel), rfl⟩
theorem se_X6_standsIn : Cond.selects RX6 yX6_standsIn yX6_standsIn ∈ bigW := List.mem_filter.mpr ⟨List.mem_of_getElem? (i := 559) (by decide +kernel), rfl⟩
theorem co_X6_standsIn : Cond.code yX6_standsIn cX6_standsIn 4 (some (FieldType.boolean)) ∈ bigW := List.mem_filter.mpr ⟨List.mem_of_getElem? (i := 560) (by decide +kernel), rfl⟩
theorem ml_L_68 : Cond.methodLink RL 68 yX7_reading ∈ bigW := List.mem_filter.mpr ⟨List.mem_of_getElem? (i := 561) (by decide +kernel), rfl⟩
theorem im_X7_reading : Cond.instanceMethod yX7_reading ∈ bigW := List.mem_filter.mpr ⟨List.mem_of_getElem? (i := 562) (by decide +kernel), rfl⟩
theorem se_X7_reading : Cond.selects RX7 yX7_reading yX7_reading ∈ bigW := List.mem_filter.mpr ⟨List.mem_of_getElem? (i := 563) (by decide +kernel), rfl⟩
theorem co_X7_reading : Cond.code yX7_reading cX7_reading 8 (some (FieldType.int)) ∈ bigW := List.mem_filter.mpr ⟨List.mem_of_getElem? (i := 564) (by decide +kernel), rfl⟩
theorem ml_X7_185 : Cond.methodLink RX7 185 yX3_keep ∈ bigW := List.mem_filter.mpr ⟨List.mem_of_getElem? (i := 565) (by decide +kernel), rfl⟩
theorem im_X3_keep : Cond.instanceMethod yX3_keep ∈ bigW := List.mem_filter.mpr ⟨List.mem_of_getElem? (i := 566) (by decide +kernel), rfl⟩
theorem se_X3_keep : Cond.selects RX3 yX3_keep yX3_keep ∈ bigW := List.mem_filter.mpr ⟨List.mem_of_getElem? (i := 567) (by decide +kernel), rfl⟩
theorem co_X3_keep : Cond.code yX3_keep cX3_keep 5 none ∈ bigW := List.mem_filter.mpr ⟨List.mem_of_getElem? (i := 568) (by decide +kernel), rfl⟩
theorem ml_X3_26 : Cond.methodLink RX3 26 arraycopyName ∈ bigW := List.mem_filter.mpr ⟨List.mem_of_getElem? (i := 569) (by decide +kernel), rfl⟩
theorem st_arraycopyName : Cond.static arraycopyName ∈ bigW := List.mem_filter.mpr ⟨List.mem_of_getElem? (i := 570) (by decide +kernel), rfl⟩
theorem na_arraycopyName : Cond.native arraycopyName ∈ bigW := List.mem_filter.mpr ⟨List.mem_of_getElem? (i := 571) (by decide +kernel), rfl⟩
theorem ml_L_73 : Cond.methodLink RL 73 yX7_back ∈ bigW := List.mem_filter.mpr ⟨List.mem_of_getElem? (i := 572) (by decide +kernel), rfl⟩
theorem im_X7_back : Cond.instanceMethod yX7_back ∈ bigW := List.mem_filter.mpr ⟨List.mem_of_getElem? (i := 573) (by decide +kernel), rfl⟩
theorem se_X7_back : Cond.selects RX7 yX7_back yX7_back ∈ bigW := List.mem_filter.mpr ⟨List.mem_of_getElem? (i := 574) (by decide +kernel), rfl⟩
theorem co_X7_back : Cond.code yX7_back cX7_back 2 (some (FieldType.int)) ∈ bigW := List.mem_filter.mpr ⟨List.mem_of_getElem? (i := 575) (by decide +kernel), rfl⟩
theorem ml_L_77 : Cond.methodLink RL 77 yX7_kinds ∈ bigW := List.mem_filter.mpr ⟨List.mem_of_getElem? (i := 576) (by decide +kernel), rfl⟩
theorem im_X7_kinds : Cond.instanceMethod yX7_kinds ∈ bigW := List.mem_filter.mpr ⟨List.mem_of_getElem? (i := 577) (by decide +kernel), rfl⟩
theorem se_X7_kinds : Cond.selects RX7 yX7_kinds yX7_kinds ∈ bigW := List.mem_filter.mpr ⟨List.mem_of_getElem? (i := 578) (by decide +kernel), rfl⟩
theorem co_X7_kinds : Cond.code yX7_kinds cX7_kinds 4 (some (FieldType.int)) ∈ bigW := List.mem_filter.mpr ⟨List.mem_of_getElem? (i := 579) (by decide +kernel), rfl⟩
theorem ml_X7_189 : Cond.methodLink RX7 189 yX6_become ∈ bigW := List.mem_filter.mpr ⟨List.mem_of_getElem? (i := 580) (by decide +kernel), rfl⟩
theorem im_X6_become : Cond.instanceMethod yX6_become ∈ bigW := List.mem_filter.mpr ⟨List.mem_of_getElem? (i := 581) (by decide +kernel), rfl⟩
theorem se_X6_become : Cond.selects RX6 yX6_become yX6_become ∈ bigW := List.mem_filter.mpr ⟨List.mem_of_getElem? (i := 582) (by decide +kernel), rfl⟩
theorem co_X6_become : Cond.code yX6_become cX6_become 2 none ∈ bigW := List.mem_filter.mpr ⟨List.mem_of_getElem? (i := 583) (by decide +kernel), rfl⟩
theorem ml_X6_22 : Cond.methodLink RX6 22 arraycopyName ∈ bigW := List.mem_filter.mpr ⟨List.mem_of_getElem? (i := 584) (by decide +kernel), rfl⟩
theorem ml_X7_193 : Cond.methodLink RX7 193 yX7_readingsAreSo ∈ bigW := List.mem_filter.mpr ⟨List.mem_of_getElem? (i := 585) (by decide +kernel), rfl⟩
theorem im_X7_readingsAreSo : Cond.instanceMethod yX7_readingsAreSo ∈ bigW := List.mem_filter.mpr ⟨List.mem_of_getElem? (i := 587) (by decide +kernel), rfl⟩
theorem co_X7_readingsAreSo : Cond.code yX7_readingsAreSo cX7_readingsAreSo 5 (some (FieldType.boolean)) ∈ bigW := List.mem_filter.mpr ⟨List.mem_of_getElem? (i := 588) (by decide +kernel), rfl⟩
theorem ml_L_81 : Cond.methodLink RL 81 yX7_lasts ∈ bigW := List.mem_filter.mpr ⟨List.mem_of_getElem? (i := 589) (by decide +kernel), rfl⟩
theorem im_X7_lasts : Cond.instanceMethod yX7_lasts ∈ bigW := List.mem_filter.mpr ⟨List.mem_of_getElem? (i := 590) (by decide +kernel), rfl⟩
theorem se_X7_lasts : Cond.selects RX7 yX7_lasts yX7_lasts ∈ bigW := List.mem_filter.mpr ⟨List.mem_of_getElem? (i := 591) (by decide +kernel), rfl⟩
theorem co_X7_lasts : Cond.code yX7_lasts cX7_lasts 4 (some (FieldType.int)) ∈ bigW := List.mem_filter.mpr ⟨List.mem_of_getElem? (i := 592) (by decide +kernel), rfl⟩
theorem ml_X7_196 : Cond.methodLink RX7 196 yX6_changeLast ∈ bigW := List.mem_filter.mpr ⟨List.mem_of_getElem? (i := 593) (by decide +kernel), rfl⟩
theorem im_X6_changeLast : Cond.instanceMethod yX6_changeLast ∈ bigW := List.mem_filter.mpr ⟨List.mem_of_getElem? (i := 594) (by decide +kernel), rfl⟩
theorem se_X6_changeLast : Cond.selects RX6 yX6_changeLast yX6_changeLast ∈ bigW := List.mem_filter.mpr ⟨List.mem_of_getElem? (i := 595) (by decide +kernel), rfl⟩
theorem co_X6_changeLast : Cond.code yX6_changeLast cX6_changeLast 2 none ∈ bigW := List.mem_filter.mpr ⟨List.mem_of_getElem? (i := 596) (by decide +kernel), rfl⟩
theorem ml_L_85 : Cond.methodLink RL 85 yX7_odds ∈ bigW := List.mem_filter.mpr ⟨List.mem_of_getElem? (i := 597) (by decide +kernel), rfl⟩
theorem im_X7_odds : Cond.instanceMethod yX7_odds ∈ bigW := List.mem_filter.mpr ⟨List.mem_of_getElem? (i := 598) (by decide +kernel), rfl⟩
theorem se_X7_odds : Cond.selects RX7 yX7_odds yX7_odds ∈ bigW := List.mem_filter.mpr ⟨List.mem_of_getElem? (i := 599) (by decide +kernel), rfl⟩
theorem co_X7_odds : Cond.code yX7_odds cX7_odds 8 (some (FieldType.long)) ∈ bigW := List.mem_filter.mpr ⟨List.mem_of_getElem? (i := 600) (by decide +kernel), rfl⟩
theorem ct_X7_200 : Cond.constantLong RX7 200 (3) ∈ bigW := List.mem_filter.mpr ⟨List.mem_of_getElem? (i := 601) (by decide +kernel), rfl⟩
theorem ml_L_90 : Cond.methodLink RL 90 yX7_sheet ∈ bigW := List.mem_filter.mpr ⟨List.mem_of_getElem? (i := 602) (by decide +kernel), rfl⟩
theorem im_X7_sheet : Cond.instanceMethod yX7_sheet ∈ bigW := List.mem_filter.mpr ⟨List.mem_of_getElem? (i := 603) (by decide +kernel), rfl⟩
theorem se_X7_sheet : Cond.selects RX7 yX7_sheet yX7_sheet ∈ bigW := List.mem_filter.mpr ⟨List.mem_of_getElem? (i := 604) (by decide +kernel), rfl⟩
theorem co_X7_sheet : Cond.code yX7_sheet cX7_sheet 4 (some (FieldType.int)) ∈ bigW := List.mem_filter.mpr ⟨List.mem_of_getElem? (i := 605) (by decide +kernel), rfl⟩
theorem ml_X7_202 : Cond.methodLink RX7 202 yX4_begin ∈ bigW := List.mem_filter.mpr ⟨List.mem_of_getElem? (i := 606) (by decide +kernel), rfl⟩
theorem im_X4_begin : Cond.instanceMethod yX4_begin ∈ bigW := List.mem_filter.mpr ⟨List.mem_of_getElem? (i := 607) (by decide +kernel), rfl⟩
theorem se_X4_begin : Cond.selects RX4 yX4_begin yX4_begin ∈ bigW := List.mem_filter.mpr ⟨List.mem_of_getElem? (i := 608) (by decide +kernel), rfl⟩
theorem co_X4_begin : Cond.code yX4_begin cX4_begin 3 none ∈ bigW := List.mem_filter.mpr ⟨List.mem_of_getElem? (i := 609) (by decide +kernel), rfl⟩
theorem ml_X4_26 : Cond.methodLink RX4 26 yJ7_fill_53178 ∈ bigW := List.mem_filter.mpr ⟨List.mem_of_getElem? (i := 610) (by decide +kernel), rfl⟩
theorem ml_L_94 : Cond.methodLink RL 94 yX7_lose ∈ bigW := List.mem_filter.mpr ⟨List.mem_of_getElem? (i := 611) (by decide +kernel), rfl⟩
theorem im_X7_lose : Cond.instanceMethod yX7_lose ∈ bigW := List.mem_filter.mpr ⟨List.mem_of_getElem? (i := 612) (by decide +kernel), rfl⟩
theorem se_X7_lose : Cond.selects RX7 yX7_lose yX7_lose ∈ bigW := List.mem_filter.mpr ⟨List.mem_of_getElem? (i := 613) (by decide +kernel), rfl⟩
theorem co_X7_lose : Cond.code yX7_lose cX7_lose 3 (some (FieldType.int)) ∈ bigW := List.mem_filter.mpr ⟨List.mem_of_getElem? (i := 614) (by decide +kernel), rfl⟩
theorem ml_L_98 : Cond.methodLink RL 98 yX7_put ∈ bigW := List.mem_filter.mpr ⟨List.mem_of_getElem? (i := 615) (by decide +kernel), rfl⟩
theorem im_X7_put : Cond.instanceMethod yX7_put ∈ bigW := List.mem_filter.mpr ⟨List.mem_of_getElem? (i := 616) (by decide +kernel), rfl⟩
theorem se_X7_put : Cond.selects RX7 yX7_put yX7_put ∈ bigW := List.mem_filter.mpr ⟨List.mem_of_getElem? (i := 617) (by decide +kernel), rfl⟩
theorem co_X7_put : Cond.code yX7_put cX7_put 4 (some (FieldType.int)) ∈ bigW := List.mem_filter.mpr ⟨List.mem_of_getElem? (i := 618) (by decide +kernel), rfl⟩
theorem ml_X7_210 : Cond.methodLink RX7 210 yX4_write ∈ bigW := List.mem_filter.mpr ⟨List.mem_of_getElem? (i := 619) (by decide +kernel), rfl⟩
theorem im_X4_write : Cond.instanceMethod yX4_write ∈ bigW := List.mem_filter.mpr ⟨List.mem_of_getElem? (i := 620) (by decide +kernel), rfl⟩
theorem se_X4_write : Cond.selects RX4 yX4_write yX4_write ∈ bigW := List.mem_filter.mpr ⟨List.mem_of_getElem? (i := 621) (by decide +kernel), rfl⟩
theorem co_X4_write : Cond.code yX4_write cX4_write 3 none ∈ bigW := List.mem_filter.mpr ⟨List.mem_of_getElem? (i := 622) (by decide +kernel), rfl⟩
theorem ml_L_102 : Cond.methodLink RL 102 yX7_cell ∈ bigW := List.mem_filter.mpr ⟨List.mem_of_getElem? (i := 623) (by decide +kernel), rfl⟩
theorem im_X7_cell : Cond.instanceMethod yX7_cell ∈ bigW := List.mem_filter.mpr ⟨List.mem_of_getElem? (i := 624) (by decide +kernel), rfl⟩
theorem se_X7_cell : Cond.selects RX7 yX7_cell yX7_cell ∈ bigW := List.mem_filter.mpr ⟨List.mem_of_getElem? (i := 625) (by decide +kernel), rfl⟩
theorem co_X7_cell : Cond.code yX7_cell cX7_cell 5 (some (FieldType.long)) ∈ bigW := List.mem_filter.mpr ⟨List.mem_of_getElem? (i := 626) (by decide +kernel), rfl⟩
theorem ml_X7_213 : Cond.methodLink RX7 213 yX4_faultOfLane ∈ bigW := List.mem_filter.mpr ⟨List.mem_of_getElem? (i := 627) (by decide +kernel), rfl⟩
theorem ml_L_107 : Cond.methodLink RL 107 yX7_copy ∈ bigW := List.mem_filter.mpr ⟨List.mem_of_getElem? (i := 628) (by decide +kernel), rfl⟩
theorem im_X7_copy : Cond.instanceMethod yX7_copy ∈ bigW := List.mem_filter.mpr ⟨List.mem_of_getElem? (i := 629) (by decide +kernel), rfl⟩
theorem se_X7_copy : Cond.selects RX7 yX7_copy yX7_copy ∈ bigW := List.mem_filter.mpr ⟨List.mem_of_getElem? (i := 630) (by decide +kernel), rfl⟩
theorem co_X7_copy : Cond.code yX7_copy cX7_copy 8 (some (FieldType.int)) ∈ bigW := List.mem_filter.mpr ⟨List.mem_of_getElem? (i := 631) (by decide +kernel), rfl⟩
theorem ml_X7_222 : Cond.methodLink RX7 222 yX4_hasCells ∈ bigW := List.mem_filter.mpr ⟨List.mem_of_getElem? (i := 632) (by decide +kernel), rfl⟩
theorem ml_X7_225 : Cond.methodLink RX7 225 arraycopyName ∈ bigW := List.mem_filter.mpr ⟨List.mem_of_getElem? (i := 633) (by decide +kernel), rfl⟩
theorem ml_L_111 : Cond.methodLink RL 111 yX7_tell ∈ bigW := List.mem_filter.mpr ⟨List.mem_of_getElem? (i := 634) (by decide +kernel), rfl⟩
theorem im_X7_tell : Cond.instanceMethod yX7_tell ∈ bigW := List.mem_filter.mpr ⟨List.mem_of_getElem? (i := 635) (by decide +kernel), rfl⟩
theorem se_X7_tell : Cond.selects RX7 yX7_tell yX7_tell ∈ bigW := List.mem_filter.mpr ⟨List.mem_of_getElem? (i := 636) (by decide +kernel), rfl⟩
theorem co_X7_tell : Cond.code yX7_tell cX7_tell 3 (some (FieldType.int)) ∈ bigW := List.mem_filter.mpr ⟨List.mem_of_getElem? (i := 637) (by decide +kernel), rfl⟩
theorem ml_X7_231 : Cond.methodLink RX7 231 yX7_tellTurned ∈ bigW := List.mem_filter.mpr ⟨List.mem_of_getElem? (i := 638) (by decide +kernel), rfl⟩
theorem im_X7_tellTurned : Cond.instanceMethod yX7_tellTurned ∈ bigW := List.mem_filter.mpr ⟨List.mem_of_getElem? (i := 640) (by decide +kernel), rfl⟩
theorem co_X7_tellTurned : Cond.code yX7_tellTurned cX7_tellTurned 3 (some (FieldType.int)) ∈ bigW := List.mem_filter.mpr ⟨List.mem_of_getElem? (i := 641) (by decide +kernel), rfl⟩
theorem ml_X7_240 : Cond.methodLink RX7 240 yX7_leaveTrace ∈ bigW := List.mem_filter.mpr ⟨List.mem_of_getElem? (i := 642) (by decide +kernel), rfl⟩
theorem im_X7_leaveTrace : Cond.instanceMethod yX7_leaveTrace ∈ bigW := List.mem_filter.mpr ⟨List.mem_of_getElem? (i := 644) (by decide +kernel), rfl⟩
theorem co_X7_leaveTrace : Cond.code yX7_leaveTrace cX7_leaveTrace 2 none ∈ bigW := List.mem_filter.mpr ⟨List.mem_of_getElem? (i := 645) (by decide +kernel), rfl⟩
theorem ml_X7_234 : Cond.methodLink RX7 234 yX7_tellBoth ∈ bigW := List.mem_filter.mpr ⟨List.mem_of_getElem? (i := 646) (by decide +kernel), rfl⟩
theorem im_X7_tellBoth : Cond.instanceMethod yX7_tellBoth ∈ bigW := List.mem_filter.mpr ⟨List.mem_of_getElem? (i := 648) (by decide +kernel), rfl⟩
theorem co_X7_tellBoth : Cond.code yX7_tellBoth cX7_tellBoth 2 (some (FieldType.int)) ∈ bigW := List.mem_filter.mpr ⟨List.mem_of_getElem? (i := 649) (by decide +kernel), rfl⟩
theorem ml_X7_237 : Cond.methodLink RX7 237 yX7_tellPlain ∈ bigW := List.mem_filter.mpr ⟨List.mem_of_getElem? (i := 650) (by decide +kernel), rfl⟩
theorem im_X7_tellPlain : Cond.instanceMethod yX7_tellPlain ∈ bigW := List.mem_filter.mpr ⟨List.mem_of_getElem? (i := 652) (by decide +kernel), rfl⟩
theorem co_X7_tellPlain : Cond.code yX7_tellPlain cX7_tellPlain 2 (some (FieldType.int)) ∈ bigW := List.mem_filter.mpr ⟨List.mem_of_getElem? (i := 653) (by decide +kernel), rfl⟩
theorem ml_L_115 : Cond.methodLink RL 115 yX7_spelt ∈ bigW := List.mem_filter.mpr ⟨List.mem_of_getElem? (i := 654) (by decide +kernel), rfl⟩
theorem im_X7_spelt : Cond.instanceMethod yX7_spelt ∈ bigW := List.mem_filter.mpr ⟨List.mem_of_getElem? (i := 655) (by decide +kernel), rfl⟩
theorem se_X7_spelt : Cond.selects RX7 yX7_spelt yX7_spelt ∈ bigW := List.mem_filter.mpr ⟨List.mem_of_getElem? (i := 656) (by decide +kernel), rfl⟩
theorem co_X7_spelt : Cond.code yX7_spelt cX7_spelt 2 (some (FieldType.int)) ∈ bigW := List.mem_filter.mpr ⟨List.mem_of_getElem? (i := 657) (by decide +kernel), rfl⟩
theorem ml_L_119 : Cond.methodLink RL 119 yX7_as ∈ bigW := List.mem_filter.mpr ⟨List.mem_of_getElem? (i := 658) (by decide +kernel), rfl⟩
theorem im_X7_as : Cond.instanceMethod yX7_as ∈ bigW := List.mem_filter.mpr ⟨List.mem_of_getElem? (i := 659) (by decide +kernel), rfl⟩
theorem se_X7_as : Cond.selects RX7 yX7_as yX7_as ∈ bigW := List.mem_filter.mpr ⟨List.mem_of_getElem? (i := 660) (by decide +kernel), rfl⟩
theorem co_X7_as : Cond.code yX7_as cX7_as 3 (some (FieldType.int)) ∈ bigW := List.mem_filter.mpr ⟨List.mem_of_getElem? (i := 661) (by decide +kernel), rfl⟩
theorem ml_L_123 : Cond.methodLink RL 123 yX7_trace ∈ bigW := List.mem_filter.mpr ⟨List.mem_of_getElem? (i := 662) (by decide +kernel), rfl⟩
theorem im_X7_trace : Cond.instanceMethod yX7_trace ∈ bigW := List.mem_filter.mpr ⟨List.mem_of_getElem? (i := 663) (by decide +kernel), rfl⟩
theorem se_X7_trace : Cond.selects RX7 yX7_trace yX7_trace ∈ bigW := List.mem_filter.mpr ⟨List.mem_of_getElem? (i := 664) (by decide +kernel), rfl⟩
theorem co_X7_trace : Cond.code yX7_trace cX7_trace 1 (some (FieldType.int)) ∈ bigW := List.mem_filter.mpr ⟨List.mem_of_getElem? (i := 665) (by decide +kernel), rfl⟩
theorem ml_L_127 : Cond.methodLink RL 127 yX7_fault ∈ bigW := List.mem_filter.mpr ⟨List.mem_of_getElem? (i := 666) (by decide +kernel), rfl⟩
theorem im_X7_fault : Cond.instanceMethod yX7_fault ∈ bigW := List.mem_filter.mpr ⟨List.mem_of_getElem? (i := 667) (by decide +kernel), rfl⟩
theorem se_X7_fault : Cond.selects RX7 yX7_fault yX7_fault ∈ bigW := List.mem_filter.mpr ⟨List.mem_of_getElem? (i := 668) (by decide +kernel), rfl⟩
theorem co_X7_fault : Cond.code yX7_fault cX7_fault 1 (some (FieldType.int)) ∈ bigW := List.mem_filter.mpr ⟨List.mem_of_getElem? (i := 669) (by decide +kernel), rfl⟩
theorem ml_L_131 : Cond.methodLink RL 131 yX7_many ∈ bigW := List.mem_filter.mpr ⟨List.mem_of_getElem? (i := 670) (by decide +kernel), rfl⟩
theorem im_X7_many : Cond.instanceMethod yX7_many ∈ bigW := List.mem_filter.mpr ⟨List.mem_of_getElem? (i := 671) (by decide +kernel), rfl⟩
theorem se_X7_many : Cond.selects RX7 yX7_many yX7_many ∈ bigW := List.mem_filter.mpr ⟨List.mem_of_getElem? (i := 672) (by decide +kernel), rfl⟩
theorem co_X7_many : Cond.code yX7_many cX7_many 2 (some (FieldType.int)) ∈ bigW := List.mem_filter.mpr ⟨List.mem_of_getElem? (i := 673) (by decide +kernel), rfl⟩
theorem ml_X7_246 : Cond.methodLink RX7 246 yX7_standIn ∈ bigW := List.mem_filter.mpr ⟨List.mem_of_getElem? (i := 674) (by decide +kernel), rfl⟩
theorem im_X7_standIn : Cond.instanceMethod yX7_standIn ∈ bigW := List.mem_filter.mpr ⟨List.mem_of_getElem? (i := 676) (by decide +kernel), rfl⟩
theorem co_X7_standIn : Cond.code yX7_standIn cX7_standIn 5 (some (FieldType.int)) ∈ bigW := List.mem_filter.mpr ⟨List.mem_of_getElem? (i := 677) (by decide +kernel), rfl⟩
theorem cl_L_10 : Cond.classLink RL 10 RX8 ∈ bigW := List.mem_filter.mpr ⟨List.mem_of_getElem? (i := 678) (by decide +kernel), rfl⟩
theorem ins_X8 : Cond.instantiable RX8 30 ∈ bigW := List.mem_filter.mpr ⟨List.mem_of_getElem? (i := 679) (by decide +kernel), rfl⟩
theorem ml_L_12 : Cond.methodLink RL 12 yX8_init ∈ bigW := List.mem_filter.mpr ⟨List.mem_of_getElem? (i := 680) (by decide +kernel), rfl⟩
theorem im_X8_init : Cond.instanceMethod yX8_init ∈ bigW := List.mem_filter.mpr ⟨List.mem_of_getElem? (i := 681) (by decide +kernel), rfl⟩
theorem co_X8_init : Cond.code yX8_init cX8_init 1 none ∈ bigW := List.mem_filter.mpr ⟨List.mem_of_getElem? (i := 682) (by decide +kernel), rfl⟩
theorem ml_X8_1 : Cond.methodLink RX8 1 objectInit ∈ bigW := List.mem_filter.mpr ⟨List.mem_of_getElem? (i := 683) (by decide +kernel), rfl⟩
theorem fl_X8_77 : Cond.fieldLink RX8 77 "OneLongRowModel" "fault" "I" ∈ bigW := List.mem_filter.mpr ⟨List.mem_of_getElem? (i := 684) (by decide +kernel), rfl⟩
theorem fl_X8_212 : Cond.fieldLink RX8 212 "OneLongRowModel" "trace" "I" ∈ bigW := List.mem_filter.mpr ⟨List.mem_of_getElem? (i := 685) (by decide +kernel), rfl⟩
theorem fl_X8_9 : Cond.fieldLink RX8 9 "OneLongRowModel" "sorts" "[I" ∈ bigW := List.mem_filter.mpr ⟨List.mem_of_getElem? (i := 686) (by decide +kernel), rfl⟩
theorem fl_X8_13 : Cond.fieldLink RX8 13 "OneLongRowModel" "sheetLong" "[I" ∈ bigW := List.mem_filter.mpr ⟨List.mem_of_getElem? (i := 687) (by decide +kernel), rfl⟩
theorem fl_X8_16 : Cond.fieldLink RX8 16 "OneLongRowModel" "cells" "[I" ∈ bigW := List.mem_filter.mpr ⟨List.mem_of_getElem? (i := 688) (by decide +kernel), rfl⟩
theorem fl_X8_87 : Cond.fieldLink RX8 87 "OneLongRowModel" "words" "I" ∈ bigW := List.mem_filter.mpr ⟨List.mem_of_getElem? (i := 689) (by decide +kernel), rfl⟩
theorem fl_X8_114 : Cond.fieldLink RX8 114 "OneLongRowModel" "said" "I" ∈ bigW := List.mem_filter.mpr ⟨List.mem_of_getElem? (i := 690) (by decide +kernel), rfl⟩
theorem fl_X8_19 : Cond.fieldLink RX8 19 "OneLongRowModel" "kind" "[I" ∈ bigW := List.mem_filter.mpr ⟨List.mem_of_getElem? (i := 691) (by decide +kernel), rfl⟩
theorem fl_X8_22 : Cond.fieldLink RX8 22 "OneLongRowModel" "longOf" "[I" ∈ bigW := List.mem_filter.mpr ⟨List.mem_of_getElem? (i := 692) (by decide +kernel), rfl⟩
theorem fl_X8_25 : Cond.fieldLink RX8 25 "OneLongRowModel" "letters" "[I" ∈ bigW := List.mem_filter.mpr ⟨List.mem_of_getElem? (i := 693) (by decide +kernel), rfl⟩
theorem fl_X8_28 : Cond.fieldLink RX8 28 "OneLongRowModel" "saidRow" "[I" ∈ bigW := List.mem_filter.mpr ⟨List.mem_of_getElem? (i := 694) (by decide +kernel), rfl⟩
theorem fl_X8_90 : Cond.fieldLink RX8 90 "OneLongRowModel" "at" "I" ∈ bigW := List.mem_filter.mpr ⟨List.mem_of_getElem? (i := 695) (by decide +kernel), rfl⟩
theorem fl_X8_111 : Cond.fieldLink RX8 111 "OneLongRowModel" "readWords" "I" ∈ bigW := List.mem_filter.mpr ⟨List.mem_of_getElem? (i := 696) (by decide +kernel), rfl⟩
theorem fl_X8_31 : Cond.fieldLink RX8 31 "OneLongRowModel" "readKind" "[I" ∈ bigW := List.mem_filter.mpr ⟨List.mem_of_getElem? (i := 697) (by decide +kernel), rfl⟩
theorem fl_X8_34 : Cond.fieldLink RX8 34 "OneLongRowModel" "readLong" "[I" ∈ bigW := List.mem_filter.mpr ⟨List.mem_of_getElem? (i := 698) (by decide +kernel), rfl⟩
theorem fl_X8_37 : Cond.fieldLink RX8 37 "OneLongRowModel" "readLetters" "[I" ∈ bigW := List.mem_filter.mpr ⟨List.mem_of_getElem? (i := 699) (by decide +kernel), rfl⟩
theorem fl_X8_40 : Cond.fieldLink RX8 40 "OneLongRowModel" "looked" "[I" ∈ bigW := List.mem_filter.mpr ⟨List.mem_of_getElem? (i := 700) (by decide +kernel), rfl⟩
theorem fl_X8_133 : Cond.fieldLink RX8 133 "OneLongRowModel" "lookedLong" "I" ∈ bigW := List.mem_filter.mpr ⟨List.mem_of_getElem? (i := 701) (by decide +kernel), rfl⟩
theorem fl_X8_43 : Cond.fieldLink RX8 43 "OneLongRowModel" "next" "[I" ∈ bigW := List.mem_filter.mpr ⟨List.mem_of_getElem? (i := 702) (by decide +kernel), rfl⟩
theorem fl_X8_46 : Cond.fieldLink RX8 46 "OneLongRowModel" "heard" "[I" ∈ bigW := List.mem_filter.mpr ⟨List.mem_of_getElem? (i := 703) (by decide +kernel), rfl⟩
theorem fl_X8_49 : Cond.fieldLink RX8 49 "OneLongRowModel" "far" "[I" ∈ bigW := List.mem_filter.mpr ⟨List.mem_of_getElem? (i := 704) (by decide +kernel), rfl⟩
theorem fl_X8_52 : Cond.fieldLink RX8 52 "OneLongRowModel" "ways" "[J" ∈ bigW := List.mem_filter.mpr ⟨List.mem_of_getElem? (i := 705) (by decide +kernel), rfl⟩
theorem fl_X8_56 : Cond.fieldLink RX8 56 "OneLongRowModel" "waysThen" "[J" ∈ bigW := List.mem_filter.mpr ⟨List.mem_of_getElem? (i := 706) (by decide +kernel), rfl⟩
theorem fl_X8_59 : Cond.fieldLink RX8 59 "OneLongRowModel" "isFree" "[I" ∈ bigW := List.mem_filter.mpr ⟨List.mem_of_getElem? (i := 707) (by decide +kernel), rfl⟩
theorem fl_X8_62 : Cond.fieldLink RX8 62 "OneLongRowModel" "isFreeThen" "[I" ∈ bigW := List.mem_filter.mpr ⟨List.mem_of_getElem? (i := 708) (by decide +kernel), rfl⟩
theorem fl_X8_117 : Cond.fieldLink RX8 117 "OneLongRowModel" "readings" "I" ∈ bigW := List.mem_filter.mpr ⟨List.mem_of_getElem? (i := 709) (by decide +kernel), rfl⟩
theorem fl_X8_65 : Cond.fieldLink RX8 65 "OneLongRowModel" "readWord" "[I" ∈ bigW := List.mem_filter.mpr ⟨List.mem_of_getElem? (i := 710) (by decide +kernel), rfl⟩
theorem fl_X8_68 : Cond.fieldLink RX8 68 "OneLongRowModel" "readMany" "[I" ∈ bigW := List.mem_filter.mpr ⟨List.mem_of_getElem? (i := 711) (by decide +kernel), rfl⟩
theorem fl_X8_71 : Cond.fieldLink RX8 71 "OneLongRowModel" "readStands" "[I" ∈ bigW := List.mem_filter.mpr ⟨List.mem_of_getElem? (i := 712) (by decide +kernel), rfl⟩
theorem fl_X8_74 : Cond.fieldLink RX8 74 "OneLongRowModel" "readRow" "[I" ∈ bigW := List.mem_filter.mpr ⟨List.mem_of_getElem? (i := 713) (by decide +kernel), rfl⟩
theorem ml_L_17 : Cond.methodLink RL 17 yX8_words ∈ bigW := List.mem_filter.mpr ⟨List.mem_of_getElem? (i := 775) (by decide +kernel), rfl⟩
theorem im_X8_words : Cond.instanceMethod yX8_words ∈ bigW := List.mem_filter.mpr ⟨List.mem_of_getElem? (i := 776) (by decide +kernel), rfl⟩
theorem se_X8_words : Cond.selects RX8 yX8_words yX8_words ∈ bigW := List.mem_filter.mpr ⟨List.mem_of_getElem? (i := 777) (by decide +kernel), rfl⟩
theorem co_X8_words : Cond.code yX8_words cX8_words 9 (some (FieldType.int)) ∈ bigW := List.mem_filter.mpr ⟨List.mem_of_getElem? (i := 778) (by decide +kernel), rfl⟩
theorem ml_X8_93 : Cond.methodLink RX8 93 yX8_isSheet ∈ bigW := List.mem_filter.mpr ⟨List.mem_of_getElem? (i := 779) (by decide +kernel), rfl⟩
theorem st_X8_isSheet : Cond.static yX8_isSheet ∈ bigW := List.mem_filter.mpr ⟨List.mem_of_getElem? (i := 780) (by decide +kernel), rfl⟩
theorem co_X8_isSheet : Cond.code yX8_isSheet cX8_isSheet 1 (some (FieldType.boolean)) ∈ bigW := List.mem_filter.mpr ⟨List.mem_of_getElem? (i := 781) (by decide +kernel), rfl⟩
theorem ml_X8_83 : Cond.methodLink RX8 83 yX8_within ∈ bigW := List.mem_filter.mpr ⟨List.mem_of_getElem? (i := 782) (by decide +kernel), rfl⟩
theorem st_X8_within : Cond.static yX8_within ∈ bigW := List.mem_filter.mpr ⟨List.mem_of_getElem? (i := 783) (by decide +kernel), rfl⟩
theorem co_X8_within : Cond.code yX8_within cX8_within 3 (some (FieldType.boolean)) ∈ bigW := List.mem_filter.mpr ⟨List.mem_of_getElem? (i := 784) (by decide +kernel), rfl⟩
theorem ml_X8_97 : Cond.methodLink RX8 97 yX8_isSort ∈ bigW := List.mem_filter.mpr ⟨List.mem_of_getElem? (i := 785) (by decide +kernel), rfl⟩
theorem st_X8_isSort : Cond.static yX8_isSort ∈ bigW := List.mem_filter.mpr ⟨List.mem_of_getElem? (i := 786) (by decide +kernel), rfl⟩
theorem co_X8_isSort : Cond.code yX8_isSort cX8_isSort 1 (some (FieldType.boolean)) ∈ bigW := List.mem_filter.mpr ⟨List.mem_of_getElem? (i := 787) (by decide +kernel), rfl⟩
theorem ml_X8_100 : Cond.methodLink RX8 100 yX8_against ∈ bigW := List.mem_filter.mpr ⟨List.mem_of_getElem? (i := 788) (by decide +kernel), rfl⟩
theorem im_X8_against : Cond.instanceMethod yX8_against ∈ bigW := List.mem_filter.mpr ⟨List.mem_of_getElem? (i := 790) (by decide +kernel), rfl⟩
theorem co_X8_against : Cond.code yX8_against cX8_against 5 (some (FieldType.int)) ∈ bigW := List.mem_filter.mpr ⟨List.mem_of_getElem? (i := 791) (by decide +kernel), rfl⟩
theorem ml_X8_104 : Cond.methodLink RX8 104 yX8_fails ∈ bigW := List.mem_filter.mpr ⟨List.mem_of_getElem? (i := 792) (by decide +kernel), rfl⟩
theorem im_X8_fails : Cond.instanceMethod yX8_fails ∈ bigW := List.mem_filter.mpr ⟨List.mem_of_getElem? (i := 794) (by decide +kernel), rfl⟩
theorem co_X8_fails : Cond.code yX8_fails cX8_fails 2 (some (FieldType.int)) ∈ bigW := List.mem_filter.mpr ⟨List.mem_of_getElem? (i := 795) (by decide +kernel), rfl⟩
theorem ml_X8_108 : Cond.methodLink RX8 108 yX8_readAll ∈ bigW := List.mem_filter.mpr ⟨List.mem_of_getElem? (i := 796) (by decide +kernel), rfl⟩
theorem im_X8_readAll : Cond.instanceMethod yX8_readAll ∈ bigW := List.mem_filter.mpr ⟨List.mem_of_getElem? (i := 798) (by decide +kernel), rfl⟩
theorem co_X8_readAll : Cond.code yX8_readAll cX8_readAll 2 (some (FieldType.boolean)) ∈ bigW := List.mem_filter.mpr ⟨List.mem_of_getElem? (i := 799) (by decide +kernel), rfl⟩
theorem ml_X8_120 : Cond.methodLink RX8 120 yX8_isSign ∈ bigW := List.mem_filter.mpr ⟨List.mem_of_getElem? (i := 800) (by decide +kernel), rfl⟩
theorem im_X8_isSign : Cond.instanceMethod yX8_isSign ∈ bigW := List.mem_filter.mpr ⟨List.mem_of_getElem? (i := 802) (by decide +kernel), rfl⟩
theorem co_X8_isSign : Cond.code yX8_isSign cX8_isSign 3 (some (FieldType.boolean)) ∈ bigW := List.mem_filter.mpr ⟨List.mem_of_getElem? (i := 803) (by decide +kernel), rfl⟩
theorem ml_X8_124 : Cond.methodLink RX8 124 yX8_readWord ∈ bigW := List.mem_filter.mpr ⟨List.mem_of_getElem? (i := 804) (by decide +kernel), rfl⟩
theorem im_X8_readWord : Cond.instanceMethod yX8_readWord ∈ bigW := List.mem_filter.mpr ⟨List.mem_of_getElem? (i := 806) (by decide +kernel), rfl⟩
theorem co_X8_readWord : Cond.code yX8_readWord cX8_readWord 4 (some (FieldType.boolean)) ∈ bigW := List.mem_filter.mpr ⟨List.mem_of_getElem? (i := 807) (by decide +kernel), rfl⟩
theorem ml_L_22 : Cond.methodLink RL 22 yX8_ofWord ∈ bigW := List.mem_filter.mpr ⟨List.mem_of_getElem? (i := 808) (by decide +kernel), rfl⟩
theorem im_X8_ofWord : Cond.instanceMethod yX8_ofWord ∈ bigW := List.mem_filter.mpr ⟨List.mem_of_getElem? (i := 809) (by decide +kernel), rfl⟩
theorem se_X8_ofWord : Cond.selects RX8 yX8_ofWord yX8_ofWord ∈ bigW := List.mem_filter.mpr ⟨List.mem_of_getElem? (i := 810) (by decide +kernel), rfl⟩
theorem co_X8_ofWord : Cond.code yX8_ofWord cX8_ofWord 3 (some (FieldType.int)) ∈ bigW := List.mem_filter.mpr ⟨List.mem_of_getElem? (i := 811) (by decide +kernel), rfl⟩
theorem ml_X8_139 : Cond.methodLink RX8 139 yX8_isWord ∈ bigW := List.mem_filter.mpr ⟨List.mem_of_getElem? (i := 812) (by decide +kernel), rfl⟩
theorem im_X8_isWord : Cond.instanceMethod yX8_isWord ∈ bigW := List.mem_filter.mpr ⟨List.mem_of_getElem? (i := 814) (by decide +kernel), rfl⟩
theorem co_X8_isWord : Cond.code yX8_isWord cX8_isWord 2 (some (FieldType.boolean)) ∈ bigW := List.mem_filter.mpr ⟨List.mem_of_getElem? (i := 815) (by decide +kernel), rfl⟩
theorem ml_X8_142 : Cond.methodLink RX8 142 yX8_areForms ∈ bigW := List.mem_filter.mpr ⟨List.mem_of_getElem? (i := 816) (by decide +kernel), rfl⟩
theorem im_X8_areForms : Cond.instanceMethod yX8_areForms ∈ bigW := List.mem_filter.mpr ⟨List.mem_of_getElem? (i := 818) (by decide +kernel), rfl⟩
theorem co_X8_areForms : Cond.code yX8_areForms cX8_areForms 3 (some (FieldType.boolean)) ∈ bigW := List.mem_filter.mpr ⟨List.mem_of_getElem? (i := 819) (by decide +kernel), rfl⟩
theorem ml_X8_126 : Cond.methodLink RX8 126 yX8_letterOf ∈ bigW := List.mem_filter.mpr ⟨List.mem_of_getElem? (i := 820) (by decide +kernel), rfl⟩
theorem im_X8_letterOf : Cond.instanceMethod yX8_letterOf ∈ bigW := List.mem_filter.mpr ⟨List.mem_of_getElem? (i := 822) (by decide +kernel), rfl⟩
theorem co_X8_letterOf : Cond.code yX8_letterOf cX8_letterOf 6 (some (FieldType.int)) ∈ bigW := List.mem_filter.mpr ⟨List.mem_of_getElem? (i := 823) (by decide +kernel), rfl⟩
theorem ml_X8_145 : Cond.methodLink RX8 145 yX8_lookAtSaid ∈ bigW := List.mem_filter.mpr ⟨List.mem_of_getElem? (i := 824) (by decide +kernel), rfl⟩
theorem im_X8_lookAtSaid : Cond.instanceMethod yX8_lookAtSaid ∈ bigW := List.mem_filter.mpr ⟨List.mem_of_getElem? (i := 826) (by decide +kernel), rfl⟩
theorem co_X8_lookAtSaid : Cond.code yX8_lookAtSaid cX8_lookAtSaid 2 none ∈ bigW := List.mem_filter.mpr ⟨List.mem_of_getElem? (i := 827) (by decide +kernel), rfl⟩
theorem ml_X8_136 : Cond.methodLink RX8 136 yX8_timesHeard ∈ bigW := List.mem_filter.mpr ⟨List.mem_of_getElem? (i := 828) (by decide +kernel), rfl⟩
theorem im_X8_timesHeard : Cond.instanceMethod yX8_timesHeard ∈ bigW := List.mem_filter.mpr ⟨List.mem_of_getElem? (i := 830) (by decide +kernel), rfl⟩
theorem co_X8_timesHeard : Cond.code yX8_timesHeard cX8_timesHeard 4 (some (FieldType.int)) ∈ bigW := List.mem_filter.mpr ⟨List.mem_of_getElem? (i := 831) (by decide +kernel), rfl⟩
theorem ml_X8_130 : Cond.methodLink RX8 130 yX8_isHeard ∈ bigW := List.mem_filter.mpr ⟨List.mem_of_getElem? (i := 832) (by decide +kernel), rfl⟩
theorem im_X8_isHeard : Cond.instanceMethod yX8_isHeard ∈ bigW := List.mem_filter.mpr ⟨List.mem_of_getElem? (i := 834) (by decide +kernel), rfl⟩
theorem co_X8_isHeard : Cond.code yX8_isHeard cX8_isHeard 6 (some (FieldType.boolean)) ∈ bigW := List.mem_filter.mpr ⟨List.mem_of_getElem? (i := 835) (by decide +kernel), rfl⟩
theorem ml_L_27 : Cond.methodLink RL 27 yX8_spell ∈ bigW := List.mem_filter.mpr ⟨List.mem_of_getElem? (i := 836) (by decide +kernel), rfl⟩
theorem im_X8_spell : Cond.instanceMethod yX8_spell ∈ bigW := List.mem_filter.mpr ⟨List.mem_of_getElem? (i := 837) (by decide +kernel), rfl⟩
theorem se_X8_spell : Cond.selects RX8 yX8_spell yX8_spell ∈ bigW := List.mem_filter.mpr ⟨List.mem_of_getElem? (i := 838) (by decide +kernel), rfl⟩
theorem co_X8_spell : Cond.code yX8_spell cX8_spell 5 (some (FieldType.int)) ∈ bigW := List.mem_filter.mpr ⟨List.mem_of_getElem? (i := 839) (by decide +kernel), rfl⟩
theorem ml_L_32 : Cond.methodLink RL 32 yX8_say ∈ bigW := List.mem_filter.mpr ⟨List.mem_of_getElem? (i := 840) (by decide +kernel), rfl⟩
theorem im_X8_say : Cond.instanceMethod yX8_say ∈ bigW := List.mem_filter.mpr ⟨List.mem_of_getElem? (i := 841) (by decide +kernel), rfl⟩
theorem se_X8_say : Cond.selects RX8 yX8_say yX8_say ∈ bigW := List.mem_filter.mpr ⟨List.mem_of_getElem? (i := 842) (by decide +kernel), rfl⟩
theorem co_X8_say : Cond.code yX8_say cX8_say 2 (some (FieldType.int)) ∈ bigW := List.mem_filter.mpr ⟨List.mem_of_getElem? (i := 843) (by decide +kernel), rfl⟩
theorem ml_X8_148 : Cond.methodLink RX8 148 yX8_heardBehind ∈ bigW := List.mem_filter.mpr ⟨List.mem_of_getElem? (i := 844) (by decide +kernel), rfl⟩
theorem im_X8_heardBehind : Cond.instanceMethod yX8_heardBehind ∈ bigW := List.mem_filter.mpr ⟨List.mem_of_getElem? (i := 846) (by decide +kernel), rfl⟩
theorem co_X8_heardBehind : Cond.code yX8_heardBehind cX8_heardBehind 4 (some (FieldType.int)) ∈ bigW := List.mem_filter.mpr ⟨List.mem_of_getElem? (i := 847) (by decide +kernel), rfl⟩
theorem ml_L_37 : Cond.methodLink RL 37 yX8_hush ∈ bigW := List.mem_filter.mpr ⟨List.mem_of_getElem? (i := 848) (by decide +kernel), rfl⟩
theorem im_X8_hush : Cond.instanceMethod yX8_hush ∈ bigW := List.mem_filter.mpr ⟨List.mem_of_getElem? (i := 849) (by decide +kernel), rfl⟩
theorem se_X8_hush : Cond.selects RX8 yX8_hush yX8_hush ∈ bigW := List.mem_filter.mpr ⟨List.mem_of_getElem? (i := 850) (by decide +kernel), rfl⟩
theorem co_X8_hush : Cond.code yX8_hush cX8_hush 2 (some (FieldType.int)) ∈ bigW := List.mem_filter.mpr ⟨List.mem_of_getElem? (i := 851) (by decide +kernel), rfl⟩
theorem ml_L_42 : Cond.methodLink RL 42 yX8_row ∈ bigW := List.mem_filter.mpr ⟨List.mem_of_getElem? (i := 852) (by decide +kernel), rfl⟩
theorem im_X8_row : Cond.instanceMethod yX8_row ∈ bigW := List.mem_filter.mpr ⟨List.mem_of_getElem? (i := 853) (by decide +kernel), rfl⟩
theorem se_X8_row : Cond.selects RX8 yX8_row yX8_row ∈ bigW := List.mem_filter.mpr ⟨List.mem_of_getElem? (i := 854) (by decide +kernel), rfl⟩
theorem co_X8_row : Cond.code yX8_row cX8_row 8 (some (FieldType.int)) ∈ bigW := List.mem_filter.mpr ⟨List.mem_of_getElem? (i := 855) (by decide +kernel), rfl⟩
theorem ml_X8_151 : Cond.methodLink RX8 151 yX8_areLetters ∈ bigW := List.mem_filter.mpr ⟨List.mem_of_getElem? (i := 856) (by decide +kernel), rfl⟩
theorem im_X8_areLetters : Cond.instanceMethod yX8_areLetters ∈ bigW := List.mem_filter.mpr ⟨List.mem_of_getElem? (i := 858) (by decide +kernel), rfl⟩
theorem co_X8_areLetters : Cond.code yX8_areLetters cX8_areLetters 4 (some (FieldType.boolean)) ∈ bigW := List.mem_filter.mpr ⟨List.mem_of_getElem? (i := 859) (by decide +kernel), rfl⟩
theorem ml_X8_154 : Cond.methodLink RX8 154 yX8_lookAtCells ∈ bigW := List.mem_filter.mpr ⟨List.mem_of_getElem? (i := 860) (by decide +kernel), rfl⟩
theorem im_X8_lookAtCells : Cond.instanceMethod yX8_lookAtCells ∈ bigW := List.mem_filter.mpr ⟨List.mem_of_getElem? (i := 862) (by decide +kernel), rfl⟩
theorem co_X8_lookAtCells : Cond.code yX8_lookAtCells cX8_lookAtCells 4 none ∈ bigW := List.mem_filter.mpr ⟨List.mem_of_getElem? (i := 863) (by decide +kernel), rfl⟩
theorem ml_X8_158 : Cond.methodLink RX8 158 yX8_standing ∈ bigW := List.mem_filter.mpr ⟨List.mem_of_getElem? (i := 864) (by decide +kernel), rfl⟩
theorem im_X8_standing : Cond.instanceMethod yX8_standing ∈ bigW := List.mem_filter.mpr ⟨List.mem_of_getElem? (i := 866) (by decide +kernel), rfl⟩
theorem co_X8_standing : Cond.code yX8_standing cX8_standing 3 (some (FieldType.int)) ∈ bigW := List.mem_filter.mpr ⟨List.mem_of_getElem? (i := 867) (by decide +kernel), rfl⟩
theorem ml_X8_162 : Cond.methodLink RX8 162 yX8_allHeard ∈ bigW := List.mem_filter.mpr ⟨List.mem_of_getElem? (i := 868) (by decide +kernel), rfl⟩
theorem im_X8_allHeard : Cond.instanceMethod yX8_allHeard ∈ bigW := List.mem_filter.mpr ⟨List.mem_of_getElem? (i := 870) (by decide +kernel), rfl⟩
theorem co_X8_allHeard : Cond.code yX8_allHeard cX8_allHeard 3 (some (FieldType.int)) ∈ bigW := List.mem_filter.mpr ⟨List.mem_of_getElem? (i := 871) (by decide +kernel), rfl⟩
theorem ml_X8_165 : Cond.methodLink RX8 165 yX8_heardBy ∈ bigW := List.mem_filter.mpr ⟨List.mem_of_getElem? (i := 872) (by decide +kernel), rfl⟩
theorem im_X8_heardBy : Cond.instanceMethod yX8_heardBy ∈ bigW := List.mem_filter.mpr ⟨List.mem_of_getElem? (i := 874) (by decide +kernel), rfl⟩
theorem co_X8_heardBy : Cond.code yX8_heardBy cX8_heardBy 4 (some (FieldType.int)) ∈ bigW := List.mem_filter.mpr ⟨List.mem_of_getElem? (i := 875) (by decide +kernel), rfl⟩
theorem ml_L_46 : Cond.methodLink RL 46 yX8_over ∈ bigW := List.mem_filter.mpr ⟨List.mem_of_getElem? (i := 876) (by decide +kernel), rfl⟩
theorem im_X8_over : Cond.instanceMethod yX8_over ∈ bigW := List.mem_filter.mpr ⟨List.mem_of_getElem? (i := 877) (by decide +kernel), rfl⟩
theorem se_X8_over : Cond.selects RX8 yX8_over yX8_over ∈ bigW := List.mem_filter.mpr ⟨List.mem_of_getElem? (i := 878) (by decide +kernel), rfl⟩
theorem co_X8_over : Cond.code yX8_over cX8_over 7 (some (FieldType.int)) ∈ bigW := List.mem_filter.mpr ⟨List.mem_of_getElem? (i := 879) (by decide +kernel), rfl⟩
theorem ml_L_50 : Cond.methodLink RL 50 yX8_all ∈ bigW := List.mem_filter.mpr ⟨List.mem_of_getElem? (i := 880) (by decide +kernel), rfl⟩
theorem im_X8_all : Cond.instanceMethod yX8_all ∈ bigW := List.mem_filter.mpr ⟨List.mem_of_getElem? (i := 881) (by decide +kernel), rfl⟩
theorem se_X8_all : Cond.selects RX8 yX8_all yX8_all ∈ bigW := List.mem_filter.mpr ⟨List.mem_of_getElem? (i := 882) (by decide +kernel), rfl⟩
theorem co_X8_all : Cond.code yX8_all cX8_all 5 (some (FieldType.int)) ∈ bigW := List.mem_filter.mpr ⟨List.mem_of_getElem? (i := 883) (by decide +kernel), rfl⟩
theorem ml_X8_182 : Cond.methodLink RX8 182 yX8_findFar ∈ bigW := List.mem_filter.mpr ⟨List.mem_of_getElem? (i := 884) (by decide +kernel), rfl⟩
theorem im_X8_findFar : Cond.instanceMethod yX8_findFar ∈ bigW := List.mem_filter.mpr ⟨List.mem_of_getElem? (i := 886) (by decide +kernel), rfl⟩
theorem co_X8_findFar : Cond.code yX8_findFar cX8_findFar 5 none ∈ bigW := List.mem_filter.mpr ⟨List.mem_of_getElem? (i := 887) (by decide +kernel), rfl⟩
theorem ml_X8_172 : Cond.methodLink RX8 172 yX8_findNext ∈ bigW := List.mem_filter.mpr ⟨List.mem_of_getElem? (i := 888) (by decide +kernel), rfl⟩
theorem im_X8_findNext : Cond.instanceMethod yX8_findNext ∈ bigW := List.mem_filter.mpr ⟨List.mem_of_getElem? (i := 890) (by decide +kernel), rfl⟩
theorem co_X8_findNext : Cond.code yX8_findNext cX8_findNext 5 none ∈ bigW := List.mem_filter.mpr ⟨List.mem_of_getElem? (i := 891) (by decide +kernel), rfl⟩
theorem ml_X8_169 : Cond.methodLink RX8 169 yX8_endOf ∈ bigW := List.mem_filter.mpr ⟨List.mem_of_getElem? (i := 892) (by decide +kernel), rfl⟩
theorem im_X8_endOf : Cond.instanceMethod yX8_endOf ∈ bigW := List.mem_filter.mpr ⟨List.mem_of_getElem? (i := 894) (by decide +kernel), rfl⟩
theorem co_X8_endOf : Cond.code yX8_endOf cX8_endOf 6 (some (FieldType.int)) ∈ bigW := List.mem_filter.mpr ⟨List.mem_of_getElem? (i := 895) (by decide +kernel), rfl⟩
theorem ml_X8_175 : Cond.methodLink RX8 175 yX8_allWords ∈ bigW := List.mem_filter.mpr ⟨List.mem_of_getElem? (i := 896) (by decide +kernel), rfl⟩
theorem im_X8_allWords : Cond.instanceMethod yX8_allWords ∈ bigW := List.mem_filter.mpr ⟨List.mem_of_getElem? (i := 898) (by decide +kernel), rfl⟩
theorem co_X8_allWords : Cond.code yX8_allWords cX8_allWords 1 (some (FieldType.int)) ∈ bigW := List.mem_filter.mpr ⟨List.mem_of_getElem? (i := 899) (by decide +kernel), rfl⟩
theorem ml_X8_178 : Cond.methodLink RX8 178 yX8_behindLetter ∈ bigW := List.mem_filter.mpr ⟨List.mem_of_getElem? (i := 900) (by decide +kernel), rfl⟩
theorem im_X8_behindLetter : Cond.instanceMethod yX8_behindLetter ∈ bigW := List.mem_filter.mpr ⟨List.mem_of_getElem? (i := 902) (by decide +kernel), rfl⟩
theorem co_X8_behindLetter : Cond.code yX8_behindLetter cX8_behindLetter 4 (some (FieldType.int)) ∈ bigW := List.mem_filter.mpr ⟨List.mem_of_getElem? (i := 903) (by decide +kernel), rfl⟩
theorem ml_L_55 : Cond.methodLink RL 55 yX8_have ∈ bigW := List.mem_filter.mpr ⟨List.mem_of_getElem? (i := 904) (by decide +kernel), rfl⟩
theorem im_X8_have : Cond.instanceMethod yX8_have ∈ bigW := List.mem_filter.mpr ⟨List.mem_of_getElem? (i := 905) (by decide +kernel), rfl⟩
theorem se_X8_have : Cond.selects RX8 yX8_have yX8_have ∈ bigW := List.mem_filter.mpr ⟨List.mem_of_getElem? (i := 906) (by decide +kernel), rfl⟩
theorem co_X8_have : Cond.code yX8_have cX8_have 2 (some (FieldType.long)) ∈ bigW := List.mem_filter.mpr ⟨List.mem_of_getElem? (i := 907) (by decide +kernel), rfl⟩
theorem ct_X8_81 : Cond.constantLong RX8 81 (-9223372036854775808) ∈ bigW := List.mem_filter.mpr ⟨List.mem_of_getElem? (i := 908) (by decide +kernel), rfl⟩
theorem ml_X8_185 : Cond.methodLink RX8 185 yX8_findWays ∈ bigW := List.mem_filter.mpr ⟨List.mem_of_getElem? (i := 909) (by decide +kernel), rfl⟩
theorem im_X8_findWays : Cond.instanceMethod yX8_findWays ∈ bigW := List.mem_filter.mpr ⟨List.mem_of_getElem? (i := 911) (by decide +kernel), rfl⟩
theorem co_X8_findWays : Cond.code yX8_findWays cX8_findWays 5 none ∈ bigW := List.mem_filter.mpr ⟨List.mem_of_getElem? (i := 912) (by decide +kernel), rfl⟩
theorem ml_X8_189 : Cond.methodLink RX8 189 yX8_waysWith ∈ bigW := List.mem_filter.mpr ⟨List.mem_of_getElem? (i := 913) (by decide +kernel), rfl⟩
theorem im_X8_waysWith : Cond.instanceMethod yX8_waysWith ∈ bigW := List.mem_filter.mpr ⟨List.mem_of_getElem? (i := 915) (by decide +kernel), rfl⟩
theorem co_X8_waysWith : Cond.code yX8_waysWith cX8_waysWith 5 (some (FieldType.long)) ∈ bigW := List.mem_filter.mpr ⟨List.mem_of_getElem? (i := 916) (by decide +kernel), rfl⟩
theorem ml_L_59 : Cond.methodLink RL 59 yX8_free ∈ bigW := List.mem_filter.mpr ⟨List.mem_of_getElem? (i := 917) (by decide +kernel), rfl⟩
theorem im_X8_free : Cond.instanceMethod yX8_free ∈ bigW := List.mem_filter.mpr ⟨List.mem_of_getElem? (i := 918) (by decide +kernel), rfl⟩
theorem se_X8_free : Cond.selects RX8 yX8_free yX8_free ∈ bigW := List.mem_filter.mpr ⟨List.mem_of_getElem? (i := 919) (by decide +kernel), rfl⟩
theorem co_X8_free : Cond.code yX8_free cX8_free 2 (some (FieldType.long)) ∈ bigW := List.mem_filter.mpr ⟨List.mem_of_getElem? (i := 920) (by decide +kernel), rfl⟩
theorem ml_L_63 : Cond.methodLink RL 63 yX8_longest ∈ bigW := List.mem_filter.mpr ⟨List.mem_of_getElem? (i := 921) (by decide +kernel), rfl⟩
theorem im_X8_longest : Cond.instanceMethod yX8_longest ∈ bigW := List.mem_filter.mpr ⟨List.mem_of_getElem? (i := 922) (by decide +kernel), rfl⟩
theorem se_X8_longest : Cond.selects RX8 yX8_longest yX8_longest ∈ bigW := List.mem_filter.mpr ⟨List.mem_of_getElem? (i := 923) (by decide +kernel), rfl⟩
theorem co_X8_longest : Cond.code yX8_longest cX8_longest 2 (some (FieldType.int)) ∈ bigW := List.mem_filter.mpr ⟨List.mem_of_getElem? (i := 924) (by decide +kernel), rfl⟩
theorem ml_X8_193 : Cond.methodLink RX8 193 yX8_goesFree ∈ bigW := List.mem_filter.mpr ⟨List.mem_of_getElem? (i := 925) (by decide +kernel), rfl⟩
theorem im_X8_goesFree : Cond.instanceMethod yX8_goesFree ∈ bigW := List.mem_filter.mpr ⟨List.mem_of_getElem? (i := 927) (by decide +kernel), rfl⟩
theorem co_X8_goesFree : Cond.code yX8_goesFree cX8_goesFree 3 (some (FieldType.boolean)) ∈ bigW := List.mem_filter.mpr ⟨List.mem_of_getElem? (i := 928) (by decide +kernel), rfl⟩
theorem ml_L_67 : Cond.methodLink RL 67 yX8_spare ∈ bigW := List.mem_filter.mpr ⟨List.mem_of_getElem? (i := 929) (by decide +kernel), rfl⟩
theorem im_X8_spare : Cond.instanceMethod yX8_spare ∈ bigW := List.mem_filter.mpr ⟨List.mem_of_getElem? (i := 930) (by decide +kernel), rfl⟩
theorem se_X8_spare : Cond.selects RX8 yX8_spare yX8_spare ∈ bigW := List.mem_filter.mpr ⟨List.mem_of_getElem? (i := 931) (by decide +kernel), rfl⟩
theorem co_X8_spare : Cond.code yX8_spare cX8_spare 4 (some (FieldType.int)) ∈ bigW := List.mem_filter.mpr ⟨List.mem_of_getElem? (i := 932) (by decide +kernel), rfl⟩
theorem ml_X8_197 : Cond.methodLink RX8 197 yX8_isIn ∈ bigW := List.mem_filter.mpr ⟨List.mem_of_getElem? (i := 933) (by decide +kernel), rfl⟩
theorem im_X8_isIn : Cond.instanceMethod yX8_isIn ∈ bigW := List.mem_filter.mpr ⟨List.mem_of_getElem? (i := 935) (by decide +kernel), rfl⟩
theorem co_X8_isIn : Cond.code yX8_isIn cX8_isIn 5 (some (FieldType.boolean)) ∈ bigW := List.mem_filter.mpr ⟨List.mem_of_getElem? (i := 936) (by decide +kernel), rfl⟩
theorem ml_L_72 : Cond.methodLink RL 72 yX8_reading ∈ bigW := List.mem_filter.mpr ⟨List.mem_of_getElem? (i := 937) (by decide +kernel), rfl⟩
theorem im_X8_reading : Cond.instanceMethod yX8_reading ∈ bigW := List.mem_filter.mpr ⟨List.mem_of_getElem? (i := 938) (by decide +kernel), rfl⟩
theorem se_X8_reading : Cond.selects RX8 yX8_reading yX8_reading ∈ bigW := List.mem_filter.mpr ⟨List.mem_of_getElem? (i := 939) (by decide +kernel), rfl⟩
theorem co_X8_reading : Cond.code yX8_reading cX8_reading 10 (some (FieldType.int)) ∈ bigW := List.mem_filter.mpr ⟨List.mem_of_getElem? (i := 940) (by decide +kernel), rfl⟩
theorem ml_L_76 : Cond.methodLink RL 76 yX8_back ∈ bigW := List.mem_filter.mpr ⟨List.mem_of_getElem? (i := 941) (by decide +kernel), rfl⟩
theorem im_X8_back : Cond.instanceMethod yX8_back ∈ bigW := List.mem_filter.mpr ⟨List.mem_of_getElem? (i := 942) (by decide +kernel), rfl⟩
theorem se_X8_back : Cond.selects RX8 yX8_back yX8_back ∈ bigW := List.mem_filter.mpr ⟨List.mem_of_getElem? (i := 943) (by decide +kernel), rfl⟩
theorem co_X8_back : Cond.code yX8_back cX8_back 2 (some (FieldType.int)) ∈ bigW := List.mem_filter.mpr ⟨List.mem_of_getElem? (i := 944) (by decide +kernel), rfl⟩
theorem ml_L_80 : Cond.methodLink RL 80 yX8_kinds ∈ bigW := List.mem_filter.mpr ⟨List.mem_of_getElem? (i := 945) (by decide +kernel), rfl⟩
theorem im_X8_kinds : Cond.instanceMethod yX8_kinds ∈ bigW := List.mem_filter.mpr ⟨List.mem_of_getElem? (i := 946) (by decide +kernel), rfl⟩
theorem se_X8_kinds : Cond.selects RX8 yX8_kinds yX8_kinds ∈ bigW := List.mem_filter.mpr ⟨List.mem_of_getElem? (i := 947) (by decide +kernel), rfl⟩
theorem co_X8_kinds : Cond.code yX8_kinds cX8_kinds 5 (some (FieldType.int)) ∈ bigW := List.mem_filter.mpr ⟨List.mem_of_getElem? (i := 948) (by decide +kernel), rfl⟩
theorem ml_X8_200 : Cond.methodLink RX8 200 yX8_areSo ∈ bigW := List.mem_filter.mpr ⟨List.mem_of_getElem? (i := 949) (by decide +kernel), rfl⟩
theorem im_X8_areSo : Cond.instanceMethod yX8_areSo ∈ bigW := List.mem_filter.mpr ⟨List.mem_of_getElem? (i := 951) (by decide +kernel), rfl⟩
theorem co_X8_areSo : Cond.code yX8_areSo cX8_areSo 3 (some (FieldType.boolean)) ∈ bigW := List.mem_filter.mpr ⟨List.mem_of_getElem? (i := 952) (by decide +kernel), rfl⟩
theorem ml_L_84 : Cond.methodLink RL 84 yX8_lasts ∈ bigW := List.mem_filter.mpr ⟨List.mem_of_getElem? (i := 953) (by decide +kernel), rfl⟩
theorem im_X8_lasts : Cond.instanceMethod yX8_lasts ∈ bigW := List.mem_filter.mpr ⟨List.mem_of_getElem? (i := 954) (by decide +kernel), rfl⟩
theorem se_X8_lasts : Cond.selects RX8 yX8_lasts yX8_lasts ∈ bigW := List.mem_filter.mpr ⟨List.mem_of_getElem? (i := 955) (by decide +kernel), rfl⟩
theorem co_X8_lasts : Cond.code yX8_lasts cX8_lasts 6 (some (FieldType.int)) ∈ bigW := List.mem_filter.mpr ⟨List.mem_of_getElem? (i := 956) (by decide +kernel), rfl⟩
theorem ml_L_89 : Cond.methodLink RL 89 yX8_odds ∈ bigW := List.mem_filter.mpr ⟨List.mem_of_getElem? (i := 957) (by decide +kernel), rfl⟩
theorem im_X8_odds : Cond.instanceMethod yX8_odds ∈ bigW := List.mem_filter.mpr ⟨List.mem_of_getElem? (i := 958) (by decide +kernel), rfl⟩
theorem se_X8_odds : Cond.selects RX8 yX8_odds yX8_odds ∈ bigW := List.mem_filter.mpr ⟨List.mem_of_getElem? (i := 959) (by decide +kernel), rfl⟩
theorem co_X8_odds : Cond.code yX8_odds cX8_odds 6 (some (FieldType.long)) ∈ bigW := List.mem_filter.mpr ⟨List.mem_of_getElem? (i := 960) (by decide +kernel), rfl⟩
theorem ct_X8_203 : Cond.constantLong RX8 203 (3) ∈ bigW := List.mem_filter.mpr ⟨List.mem_of_getElem? (i := 961) (by decide +kernel), rfl⟩
theorem ml_X8_205 : Cond.methodLink RX8 205 yX8_inLeastTerms ∈ bigW := List.mem_filter.mpr ⟨List.mem_of_getElem? (i := 962) (by decide +kernel), rfl⟩
theorem st_X8_inLeastTerms : Cond.static yX8_inLeastTerms ∈ bigW := List.mem_filter.mpr ⟨List.mem_of_getElem? (i := 963) (by decide +kernel), rfl⟩
theorem co_X8_inLeastTerms : Cond.code yX8_inLeastTerms cX8_inLeastTerms 11 (some (FieldType.long)) ∈ bigW := List.mem_filter.mpr ⟨List.mem_of_getElem? (i := 964) (by decide +kernel), rfl⟩
theorem ml_L_93 : Cond.methodLink RL 93 yX8_sheet ∈ bigW := List.mem_filter.mpr ⟨List.mem_of_getElem? (i := 965) (by decide +kernel), rfl⟩
theorem im_X8_sheet : Cond.instanceMethod yX8_sheet ∈ bigW := List.mem_filter.mpr ⟨List.mem_of_getElem? (i := 966) (by decide +kernel), rfl⟩
theorem se_X8_sheet : Cond.selects RX8 yX8_sheet yX8_sheet ∈ bigW := List.mem_filter.mpr ⟨List.mem_of_getElem? (i := 967) (by decide +kernel), rfl⟩
theorem co_X8_sheet : Cond.code yX8_sheet cX8_sheet 5 (some (FieldType.int)) ∈ bigW := List.mem_filter.mpr ⟨List.mem_of_getElem? (i := 968) (by decide +kernel), rfl⟩
theorem ml_L_97 : Cond.methodLink RL 97 yX8_lose ∈ bigW := List.mem_filter.mpr ⟨List.mem_of_getElem? (i := 969) (by decide +kernel), rfl⟩
theorem im_X8_lose : Cond.instanceMethod yX8_lose ∈ bigW := List.mem_filter.mpr ⟨List.mem_of_getElem? (i := 970) (by decide +kernel), rfl⟩
theorem se_X8_lose : Cond.selects RX8 yX8_lose yX8_lose ∈ bigW := List.mem_filter.mpr ⟨List.mem_of_getElem? (i := 971) (by decide +kernel), rfl⟩
theorem co_X8_lose : Cond.code yX8_lose cX8_lose 3 (some (FieldType.int)) ∈ bigW := List.mem_filter.mpr ⟨List.mem_of_getElem? (i := 972) (by decide +kernel), rfl⟩
theorem ml_L_101 : Cond.methodLink RL 101 yX8_put ∈ bigW := List.mem_filter.mpr ⟨List.mem_of_getElem? (i := 973) (by decide +kernel), rfl⟩
theorem im_X8_put : Cond.instanceMethod yX8_put ∈ bigW := List.mem_filter.mpr ⟨List.mem_of_getElem? (i := 974) (by decide +kernel), rfl⟩
theorem se_X8_put : Cond.selects RX8 yX8_put yX8_put ∈ bigW := List.mem_filter.mpr ⟨List.mem_of_getElem? (i := 975) (by decide +kernel), rfl⟩
theorem co_X8_put : Cond.code yX8_put cX8_put 4 (some (FieldType.int)) ∈ bigW := List.mem_filter.mpr ⟨List.mem_of_getElem? (i := 976) (by decide +kernel), rfl⟩
theorem ml_L_106 : Cond.methodLink RL 106 yX8_cell ∈ bigW := List.mem_filter.mpr ⟨List.mem_of_getElem? (i := 977) (by decide +kernel), rfl⟩
theorem im_X8_cell : Cond.instanceMethod yX8_cell ∈ bigW := List.mem_filter.mpr ⟨List.mem_of_getElem? (i := 978) (by decide +kernel), rfl⟩
theorem se_X8_cell : Cond.selects RX8 yX8_cell yX8_cell ∈ bigW := List.mem_filter.mpr ⟨List.mem_of_getElem? (i := 979) (by decide +kernel), rfl⟩
theorem co_X8_cell : Cond.code yX8_cell cX8_cell 4 (some (FieldType.long)) ∈ bigW := List.mem_filter.mpr ⟨List.mem_of_getElem? (i := 980) (by decide +kernel), rfl⟩
theorem ml_X8_209 : Cond.methodLink RX8 209 yX8_lost ∈ bigW := List.mem_filter.mpr ⟨List.mem_of_getElem? (i := 981) (by decide +kernel), rfl⟩
theorem im_X8_lost : Cond.instanceMethod yX8_lost ∈ bigW := List.mem_filter.mpr ⟨List.mem_of_getElem? (i := 983) (by decide +kernel), rfl⟩
theorem co_X8_lost : Cond.code yX8_lost cX8_lost 2 (some (FieldType.long)) ∈ bigW := List.mem_filter.mpr ⟨List.mem_of_getElem? (i := 984) (by decide +kernel), rfl⟩
theorem ml_L_110 : Cond.methodLink RL 110 yX8_copy ∈ bigW := List.mem_filter.mpr ⟨List.mem_of_getElem? (i := 985) (by decide +kernel), rfl⟩
theorem im_X8_copy : Cond.instanceMethod yX8_copy ∈ bigW := List.mem_filter.mpr ⟨List.mem_of_getElem? (i := 986) (by decide +kernel), rfl⟩
theorem se_X8_copy : Cond.selects RX8 yX8_copy yX8_copy ∈ bigW := List.mem_filter.mpr ⟨List.mem_of_getElem? (i := 987) (by decide +kernel), rfl⟩
theorem co_X8_copy : Cond.code yX8_copy cX8_copy 10 (some (FieldType.int)) ∈ bigW := List.mem_filter.mpr ⟨List.mem_of_getElem? (i := 988) (by decide +kernel), rfl⟩
theorem ml_L_114 : Cond.methodLink RL 114 yX8_tell ∈ bigW := List.mem_filter.mpr ⟨List.mem_of_getElem? (i := 989) (by decide +kernel), rfl⟩
theorem im_X8_tell : Cond.instanceMethod yX8_tell ∈ bigW := List.mem_filter.mpr ⟨List.mem_of_getElem? (i := 990) (by decide +kernel), rfl⟩
theorem se_X8_tell : Cond.selects RX8 yX8_tell yX8_tell ∈ bigW := List.mem_filter.mpr ⟨List.mem_of_getElem? (i := 991) (by decide +kernel), rfl⟩
theorem co_X8_tell : Cond.code yX8_tell cX8_tell 3 (some (FieldType.int)) ∈ bigW := List.mem_filter.mpr ⟨List.mem_of_getElem? (i := 992) (by decide +kernel), rfl⟩
theorem ml_X8_215 : Cond.methodLink RX8 215 yX8_begins ∈ bigW := List.mem_filter.mpr ⟨List.mem_of_getElem? (i := 993) (by decide +kernel), rfl⟩
theorem im_X8_begins : Cond.instanceMethod yX8_begins ∈ bigW := List.mem_filter.mpr ⟨List.mem_of_getElem? (i := 995) (by decide +kernel), rfl⟩
theorem co_X8_begins : Cond.code yX8_begins cX8_begins 2 none ∈ bigW := List.mem_filter.mpr ⟨List.mem_of_getElem? (i := 996) (by decide +kernel), rfl⟩
theorem ml_L_118 : Cond.methodLink RL 118 yX8_spelt ∈ bigW := List.mem_filter.mpr ⟨List.mem_of_getElem? (i := 997) (by decide +kernel), rfl⟩
theorem im_X8_spelt : Cond.instanceMethod yX8_spelt ∈ bigW := List.mem_filter.mpr ⟨List.mem_of_getElem? (i := 998) (by decide +kernel), rfl⟩
theorem se_X8_spelt : Cond.selects RX8 yX8_spelt yX8_spelt ∈ bigW := List.mem_filter.mpr ⟨List.mem_of_getElem? (i := 999) (by decide +kernel), rfl⟩
theorem co_X8_spelt : Cond.code yX8_spelt cX8_spelt 2 (some (FieldType.int)) ∈ bigW := List.mem_filter.mpr ⟨List.mem_of_getElem? (i := 1000) (by decide +kernel), rfl⟩
theorem ml_L_122 : Cond.methodLink RL 122 yX8_as ∈ bigW := List.mem_filter.mpr ⟨List.mem_of_getElem? (i := 1001) (by decide +kernel), rfl⟩
theorem im_X8_as : Cond.instanceMethod yX8_as ∈ bigW := List.mem_filter.mpr ⟨List.mem_of_getElem? (i := 1002) (by decide +kernel), rfl⟩
theorem se_X8_as : Cond.selects RX8 yX8_as yX8_as ∈ bigW := List.mem_filter.mpr ⟨List.mem_of_getElem? (i := 1003) (by decide +kernel), rfl⟩
theorem co_X8_as : Cond.code yX8_as cX8_as 3 (some (FieldType.int)) ∈ bigW := List.mem_filter.mpr ⟨List.mem_of_getElem? (i := 1004) (by decide +kernel), rfl⟩
theorem ml_L_126 : Cond.methodLink RL 126 yX8_trace ∈ bigW := List.mem_filter.mpr ⟨List.mem_of_getElem? (i := 1005) (by decide +kernel), rfl⟩
theorem im_X8_trace : Cond.instanceMethod yX8_trace ∈ bigW := List.mem_filter.mpr ⟨List.mem_of_getElem? (i := 1006) (by decide +kernel), rfl⟩
theorem se_X8_trace : Cond.selects RX8 yX8_trace yX8_trace ∈ bigW := List.mem_filter.mpr ⟨List.mem_of_getElem? (i := 1007) (by decide +kernel), rfl⟩
theorem co_X8_trace : Cond.code yX8_trace cX8_trace 1 (some (FieldType.int)) ∈ bigW := List.mem_filter.mpr ⟨List.mem_of_getElem? (i := 1008) (by decide +kernel), rfl⟩
theorem ml_L_130 : Cond.methodLink RL 130 yX8_fault ∈ bigW := List.mem_filter.mpr ⟨List.mem_of_getElem? (i := 1009) (by decide +kernel), rfl⟩
theorem im_X8_fault : Cond.instanceMethod yX8_fault ∈ bigW := List.mem_filter.mpr ⟨List.mem_of_getElem? (i := 1010) (by decide +kernel), rfl⟩
theorem se_X8_fault : Cond.selects RX8 yX8_fault yX8_fault ∈ bigW := List.mem_filter.mpr ⟨List.mem_of_getElem? (i := 1011) (by decide +kernel), rfl⟩
theorem co_X8_fault : Cond.code yX8_fault cX8_fault 1 (some (FieldType.int)) ∈ bigW := List.mem_filter.mpr ⟨List.mem_of_getElem? (i := 1012) (by decide +kernel), rfl⟩
theorem ml_L_134 : Cond.methodLink RL 134 yX8_many ∈ bigW := List.mem_filter.mpr ⟨List.mem_of_getElem? (i := 1013) (by decide +kernel), rfl⟩
theorem im_X8_many : Cond.instanceMethod yX8_many ∈ bigW := List.mem_filter.mpr ⟨List.mem_of_getElem? (i := 1014) (by decide +kernel), rfl⟩
theorem se_X8_many : Cond.selects RX8 yX8_many yX8_many ∈ bigW := List.mem_filter.mpr ⟨List.mem_of_getElem? (i := 1015) (by decide +kernel), rfl⟩
theorem co_X8_many : Cond.code yX8_many cX8_many 2 (some (FieldType.int)) ∈ bigW := List.mem_filter.mpr ⟨List.mem_of_getElem? (i := 1016) (by decide +kernel), rfl⟩
theorem ly_X0_0 : u_lay RX0 TX0 0 ∈ bigW := List.mem_filter.mpr ⟨List.mem_of_getElem? (i := 207) (by decide +kernel), by decide +kernel⟩
theorem ly_X0_1 : u_lay RX0 TX0 1 ∈ bigW := List.mem_filter.mpr ⟨List.mem_of_getElem? (i := 209) (by decide +kernel), by decide +kernel⟩
theorem ly_X0_2 : u_lay RX0 TX0 2 ∈ bigW := List.mem_filter.mpr ⟨List.mem_of_getElem? (i := 211) (by decide +kernel), by decide +kernel⟩
theorem ly_X0_3 : u_lay RX0 TX0 3 ∈ bigW := List.mem_filter.mpr ⟨List.mem_of_getElem? (i := 213) (by decide +kernel), by decide +kernel⟩
theorem ly_X0_4 : u_lay RX0 TX0 4 ∈ bigW := List.mem_filter.mpr ⟨List.mem_of_getElem? (i := 215) (by decide +kernel), by decide +kernel⟩
theorem wu_X0 : ∀ w ∈ u_ws RX0 TX0 5, w ∈ bigW := by
  intro w hw
  obtain ⟨k, hk, rfl⟩ := List.mem_map.mp hw
  have hk := List.mem_range.mp hk
  match k, hk with
  | 0, _ => exact ly_X0_0
  | 1, _ => exact ly_X0_1
  | 2, _ => exact ly_X0_2
  | 3, _ => exact ly_X0_3
  | 4, _ => exact ly_X0_4
  | k + 5, hk => exact absurd hk (by omega)
theorem ly_X1_0 : u_lay RX1 TX1 0 ∈ bigW := List.mem_filter.mpr ⟨List.mem_of_getElem? (i := 144) (by decide +kernel), by decide +kernel⟩
theorem ly_X1_1 : u_lay RX1 TX1 1 ∈ bigW := List.mem_filter.mpr ⟨List.mem_of_getElem? (i := 146) (by decide +kernel), by decide +kernel⟩
theorem ly_X1_2 : u_lay RX1 TX1 2 ∈ bigW := List.mem_filter.mpr ⟨List.mem_of_getElem? (i := 148) (by decide +kernel), by decide +kernel⟩
theorem ly_X1_3 : u_lay RX1 TX1 3 ∈ bigW := List.mem_filter.mpr ⟨List.mem_of_getElem? (i := 150) (by decide +kernel), by decide +kernel⟩
theorem ly_X1_4 : u_lay RX1 TX1 4 ∈ bigW := List.mem_filter.mpr ⟨List.mem_of_getElem? (i := 152) (by decide +kernel), by decide +kernel⟩
theorem ly_X1_5 : u_lay RX1 TX1 5 ∈ bigW := List.mem_filter.mpr ⟨List.mem_of_getElem? (i := 154) (by decide +kernel), by decide +kernel⟩
theorem wu_X1 : ∀ w ∈ u_ws RX1 TX1 6, w ∈ bigW := by
  intro w hw
  obtain ⟨k, hk, rfl⟩ := List.mem_map.mp hw
  have hk := List.mem_range.mp hk
  match k, hk with
  | 0, _ => exact ly_X1_0
  | 1, _ => exact ly_X1_1
  | 2, _ => exact ly_X1_2
  | 3, _ => exact ly_X1_3
  | 4, _ => exact ly_X1_4
  | 5, _ => exact ly_X1_5
  | k + 6, hk => exact absurd hk (by omega)
theorem ly_X2_0 : u_lay RX2 TX2 0 ∈ bigW := List.mem_filter.mpr ⟨List.mem_of_getElem? (i := 177) (by decide +kernel), by decide +kernel⟩
theorem ly_X2_1 : u_lay RX2 TX2 1 ∈ bigW := List.mem_filter.mpr ⟨List.mem_of_getElem? (i := 179) (by decide +kernel), by decide +kernel⟩
theorem ly_X2_2 : u_lay RX2 TX2 2 ∈ bigW := List.mem_filter.mpr ⟨List.mem_of_getElem? (i := 181) (by decide +kernel), by decide +kernel⟩
theorem ly_X2_3 : u_lay RX2 TX2 3 ∈ bigW := List.mem_filter.mpr ⟨List.mem_of_getElem? (i := 183) (by decide +kernel), by decide +kernel⟩
theorem ly_X2_4 : u_lay RX2 TX2 4 ∈ bigW := List.mem_filter.mpr ⟨List.mem_of_getElem? (i := 185) (by decide +kernel), by decide +kernel⟩
theorem ly_X2_5 : u_lay RX2 TX2 5 ∈ bigW := List.mem_filter.mpr ⟨List.mem_of_getElem? (i := 187) (by decide +kernel), by decide +kernel⟩
theorem ly_X2_6 : u_lay RX2 TX2 6 ∈ bigW := List.mem_filter.mpr ⟨List.mem_of_getElem? (i := 189) (by decide +kernel), by decide +kernel⟩
theorem ly_X2_7 : u_lay RX2 TX2 7 ∈ bigW := List.mem_filter.mpr ⟨List.mem_of_getElem? (i := 191) (by decide +kernel), by decide +kernel⟩
theorem wu_X2 : ∀ w ∈ u_ws RX2 TX2 8, w ∈ bigW := by
  intro w hw
  obtain ⟨k, hk, rfl⟩ := List.mem_map.mp hw
  have hk := List.mem_range.mp hk
  match k, hk with
  | 0, _ => exact ly_X2_0
  | 1, _ => exact ly_X2_1
  | 2, _ => exact ly_X2_2
  | 3, _ => exact ly_X2_3
  | 4, _ => exact ly_X2_4
  | 5, _ => exact ly_X2_5
  | 6, _ => exact ly_X2_6
  | 7, _ => exact ly_X2_7
  | k + 8, hk => exact absurd hk (by omega)
theorem ly_X3_0 : u_lay RX3 TX3 0 ∈ bigW := List.mem_filter.mpr ⟨List.mem_of_getElem? (i := 255) (by decide +kernel), by decide +kernel⟩
theorem ly_X3_1 : u_lay RX3 TX3 1 ∈ bigW := List.mem_filter.mpr ⟨List.mem_of_getElem? (i := 257) (by decide +kernel), by decide +kernel⟩
theorem ly_X3_2 : u_lay RX3 TX3 2 ∈ bigW := List.mem_filter.mpr ⟨List.mem_of_getElem? (i := 259) (by decide +kernel), by decide +kernel⟩
theorem ly_X3_3 : u_lay RX3 TX3 3 ∈ bigW := List.mem_filter.mpr ⟨List.mem_of_getElem? (i := 261) (by decide +kernel), by decide +kernel⟩
theorem wu_X3 : ∀ w ∈ u_ws RX3 TX3 4, w ∈ bigW := by
  intro w hw
  obtain ⟨k, hk, rfl⟩ := List.mem_map.mp hw
  have hk := List.mem_range.mp hk
  match k, hk with
  | 0, _ => exact ly_X3_0
  | 1, _ => exact ly_X3_1
  | 2, _ => exact ly_X3_2
  | 3, _ => exact ly_X3_3
  | k + 4, hk => exact absurd hk (by omega)
theorem ly_X4_0 : u_lay RX4 TX4 0 ∈ bigW := List.mem_filter.mpr ⟨List.mem_of_getElem? (i := 233) (by decide +kernel), by decide +kernel⟩
theorem ly_X4_1 : u_lay RX4 TX4 1 ∈ bigW := List.mem_filter.mpr ⟨List.mem_of_getElem? (i := 235) (by decide +kernel), by decide +kernel⟩
theorem ly_X4_2 : u_lay RX4 TX4 2 ∈ bigW := List.mem_filter.mpr ⟨List.mem_of_getElem? (i := 237) (by decide +kernel), by decide +kernel⟩
theorem ly_X4_3 : u_lay RX4 TX4 3 ∈ bigW := List.mem_filter.mpr ⟨List.mem_of_getElem? (i := 239) (by decide +kernel), by decide +kernel⟩
theorem wu_X4 : ∀ w ∈ u_ws RX4 TX4 4, w ∈ bigW := by
  intro w hw
  obtain ⟨k, hk, rfl⟩ := List.mem_map.mp hw
  have hk := List.mem_range.mp hk
  match k, hk with
  | 0, _ => exact ly_X4_0
  | 1, _ => exact ly_X4_1
  | 2, _ => exact ly_X4_2
  | 3, _ => exact ly_X4_3
  | k + 4, hk => exact absurd hk (by omega)
theorem ly_X5_0 : u_lay RX5 TX5 0 ∈ bigW := List.mem_filter.mpr ⟨List.mem_of_getElem? (i := 118) (by decide +kernel), by decide +kernel⟩
theorem ly_X5_1 : u_lay RX5 TX5 1 ∈ bigW := List.mem_filter.mpr ⟨List.mem_of_getElem? (i := 120) (by decide +kernel), by decide +kernel⟩
theorem wu_X5 : ∀ w ∈ u_ws RX5 TX5 2, w ∈ bigW := by
  intro w hw
  obtain ⟨k, hk, rfl⟩ := List.mem_map.mp hw
  have hk := List.mem_range.mp hk
  match k, hk with
  | 0, _ => exact ly_X5_0
  | 1, _ => exact ly_X5_1
  | k + 2, hk => exact absurd hk (by omega)
theorem ly_X6_0 : u_lay RX6 TX6 0 ∈ bigW := List.mem_filter.mpr ⟨List.mem_of_getElem? (i := 106) (by decide +kernel), by decide +kernel⟩
theorem ly_X6_1 : u_lay RX6 TX6 1 ∈ bigW := List.mem_filter.mpr ⟨List.mem_of_getElem? (i := 108) (by decide +kernel), by decide +kernel⟩
theorem ly_X6_2 : u_lay RX6 TX6 2 ∈ bigW := List.mem_filter.mpr ⟨List.mem_of_getElem? (i := 110) (by decide +kernel), by decide +kernel⟩
theorem wu_X6 : ∀ w ∈ u_ws RX6 TX6 3, w ∈ bigW := by
  intro w hw
  obtain ⟨k, hk, rfl⟩ := List.mem_map.mp hw
  have hk := List.mem_range.mp hk
  match k, hk with
  | 0, _ => exact ly_X6_0
  | 1, _ => exact ly_X6_1
  | 2, _ => exact ly_X6_2
  | k + 3, hk => exact absurd hk (by omega)
theorem ly_X7_0 : u_lay RX7 TX7 0 ∈ bigW := List.mem_filter.mpr ⟨List.mem_of_getElem? (i := 281) (by decide +kernel), by decide +kernel⟩
theorem ly_X7_1 : u_lay RX7 TX7 1 ∈ bigW := List.mem_filter.mpr ⟨List.mem_of_getElem? (i := 283) (by decide +kernel), by decide +kernel⟩
theorem ly_X7_2 : u_lay RX7 TX7 2 ∈ bigW := List.mem_filter.mpr ⟨List.mem_of_getElem? (i := 285) (by decide +kernel), by decide +kernel⟩
theorem ly_X7_3 : u_lay RX7 TX7 3 ∈ bigW := List.mem_filter.mpr ⟨List.mem_of_getElem? (i := 287) (by decide +kernel), by decide +kernel⟩
theorem ly_X7_4 : u_lay RX7 TX7 4 ∈ bigW := List.mem_filter.mpr ⟨List.mem_of_getElem? (i := 289) (by decide +kernel), by decide +kernel⟩
theorem ly_X7_5 : u_lay RX7 TX7 5 ∈ bigW := List.mem_filter.mpr ⟨List.mem_of_getElem? (i := 291) (by decide +kernel), by decide +kernel⟩
theorem ly_X7_6 : u_lay RX7 TX7 6 ∈ bigW := List.mem_filter.mpr ⟨List.mem_of_getElem? (i := 293) (by decide +kernel), by decide +kernel⟩
theorem ly_X7_7 : u_lay RX7 TX7 7 ∈ bigW := List.mem_filter.mpr ⟨List.mem_of_getElem? (i := 295) (by decide +kernel), by decide +kernel⟩
theorem ly_X7_8 : u_lay RX7 TX7 8 ∈ bigW := List.mem_filter.mpr ⟨List.mem_of_getElem? (i := 297) (by decide +kernel), by decide +kernel⟩
theorem ly_X7_9 : u_lay RX7 TX7 9 ∈ bigW := List.mem_filter.mpr ⟨List.mem_of_getElem? (i := 299) (by decide +kernel), by decide +kernel⟩
theorem ly_X7_10 : u_lay RX7 TX7 10 ∈ bigW := List.mem_filter.mpr ⟨List.mem_of_getElem? (i := 301) (by decide +kernel), by decide +kernel⟩
theorem ly_X7_11 : u_lay RX7 TX7 11 ∈ bigW := List.mem_filter.mpr ⟨List.mem_of_getElem? (i := 303) (by decide +kernel), by decide +kernel⟩
theorem ly_X7_12 : u_lay RX7 TX7 12 ∈ bigW := List.mem_filter.mpr ⟨List.mem_of_getElem? (i := 305) (by decide +kernel), by decide +kernel⟩
theorem ly_X7_13 : u_lay RX7 TX7 13 ∈ bigW := List.mem_filter.mpr ⟨List.mem_of_getElem? (i := 307) (by decide +kernel), by decide +kernel⟩
theorem ly_X7_14 : u_lay RX7 TX7 14 ∈ bigW := List.mem_filter.mpr ⟨List.mem_of_getElem? (i := 309) (by decide +kernel), by decide +kernel⟩
theorem ly_X7_15 : u_lay RX7 TX7 15 ∈ bigW := List.mem_filter.mpr ⟨List.mem_of_getElem? (i := 311) (by decide +kernel), by decide +kernel⟩
theorem ly_X7_16 : u_lay RX7 TX7 16 ∈ bigW := List.mem_filter.mpr ⟨List.mem_of_getElem? (i := 313) (by decide +kernel), by decide +kernel⟩
theorem wu_X7 : ∀ w ∈ u_ws RX7 TX7 17, w ∈ bigW := by
  intro w hw
  obtain ⟨k, hk, rfl⟩ := List.mem_map.mp hw
  have hk := List.mem_range.mp hk
  match k, hk with
  | 0, _ => exact ly_X7_0
  | 1, _ => exact ly_X7_1
  | 2, _ => exact ly_X7_2
  | 3, _ => exact ly_X7_3
  | 4, _ => exact ly_X7_4
  | 5, _ => exact ly_X7_5
  | 6, _ => exact ly_X7_6
  | 7, _ => exact ly_X7_7
  | 8, _ => exact ly_X7_8
  | 9, _ => exact ly_X7_9
  | 10, _ => exact ly_X7_10
  | 11, _ => exact ly_X7_11
  | 12, _ => exact ly_X7_12
  | 13, _ => exact ly_X7_13
  | 14, _ => exact ly_X7_14
  | 15, _ => exact ly_X7_15
  | 16, _ => exact ly_X7_16
  | k + 17, hk => exact absurd hk (by omega)
theorem ly_X8_0 : u_lay RX8 TX8 0 ∈ bigW := List.mem_filter.mpr ⟨List.mem_of_getElem? (i := 714) (by decide +kernel), by decide +kernel⟩
theorem ly_X8_1 : u_lay RX8 TX8 1 ∈ bigW := List.mem_filter.mpr ⟨List.mem_of_getElem? (i := 716) (by decide +kernel), by decide +kernel⟩
theorem ly_X8_2 : u_lay RX8 TX8 2 ∈ bigW := List.mem_filter.mpr ⟨List.mem_of_getElem? (i := 718) (by decide +kernel), by decide +kernel⟩
theorem ly_X8_3 : u_lay RX8 TX8 3 ∈ bigW := List.mem_filter.mpr ⟨List.mem_of_getElem? (i := 720) (by decide +kernel), by decide +kernel⟩
theorem ly_X8_4 : u_lay RX8 TX8 4 ∈ bigW := List.mem_filter.mpr ⟨List.mem_of_getElem? (i := 722) (by decide +kernel), by decide +kernel⟩
theorem ly_X8_5 : u_lay RX8 TX8 5 ∈ bigW := List.mem_filter.mpr ⟨List.mem_of_getElem? (i := 724) (by decide +kernel), by decide +kernel⟩
theorem ly_X8_6 : u_lay RX8 TX8 6 ∈ bigW := List.mem_filter.mpr ⟨List.mem_of_getElem? (i := 726) (by decide +kernel), by decide +kernel⟩
theorem ly_X8_7 : u_lay RX8 TX8 7 ∈ bigW := List.mem_filter.mpr ⟨List.mem_of_getElem? (i := 728) (by decide +kernel), by decide +kernel⟩
theorem ly_X8_8 : u_lay RX8 TX8 8 ∈ bigW := List.mem_filter.mpr ⟨List.mem_of_getElem? (i := 730) (by decide +kernel), by decide +kernel⟩
theorem ly_X8_9 : u_lay RX8 TX8 9 ∈ bigW := List.mem_filter.mpr ⟨List.mem_of_getElem? (i := 732) (by decide +kernel), by decide +kernel⟩
theorem ly_X8_10 : u_lay RX8 TX8 10 ∈ bigW := List.mem_filter.mpr ⟨List.mem_of_getElem? (i := 734) (by decide +kernel), by decide +kernel⟩
theorem ly_X8_11 : u_lay RX8 TX8 11 ∈ bigW := List.mem_filter.mpr ⟨List.mem_of_getElem? (i := 736) (by decide +kernel), by decide +kernel⟩
theorem ly_X8_12 : u_lay RX8 TX8 12 ∈ bigW := List.mem_filter.mpr ⟨List.mem_of_getElem? (i := 738) (by decide +kernel), by decide +kernel⟩
theorem ly_X8_13 : u_lay RX8 TX8 13 ∈ bigW := List.mem_filter.mpr ⟨List.mem_of_getElem? (i := 740) (by decide +kernel), by decide +kernel⟩
theorem ly_X8_14 : u_lay RX8 TX8 14 ∈ bigW := List.mem_filter.mpr ⟨List.mem_of_getElem? (i := 742) (by decide +kernel), by decide +kernel⟩
theorem ly_X8_15 : u_lay RX8 TX8 15 ∈ bigW := List.mem_filter.mpr ⟨List.mem_of_getElem? (i := 744) (by decide +kernel), by decide +kernel⟩
theorem ly_X8_16 : u_lay RX8 TX8 16 ∈ bigW := List.mem_filter.mpr ⟨List.mem_of_getElem? (i := 746) (by decide +kernel), by decide +kernel⟩
theorem ly_X8_17 : u_lay RX8 TX8 17 ∈ bigW := List.mem_filter.mpr ⟨List.mem_of_getElem? (i := 748) (by decide +kernel), by decide +kernel⟩
theorem ly_X8_18 : u_lay RX8 TX8 18 ∈ bigW := List.mem_filter.mpr ⟨List.mem_of_getElem? (i := 750) (by decide +kernel), by decide +kernel⟩
theorem ly_X8_19 : u_lay RX8 TX8 19 ∈ bigW := List.mem_filter.mpr ⟨List.mem_of_getElem? (i := 752) (by decide +kernel), by decide +kernel⟩
theorem ly_X8_20 : u_lay RX8 TX8 20 ∈ bigW := List.mem_filter.mpr ⟨List.mem_of_getElem? (i := 754) (by decide +kernel), by decide +kernel⟩
theorem ly_X8_21 : u_lay RX8 TX8 21 ∈ bigW := List.mem_filter.mpr ⟨List.mem_of_getElem? (i := 756) (by decide +kernel), by decide +kernel⟩
theorem ly_X8_22 : u_lay RX8 TX8 22 ∈ bigW := List.mem_filter.mpr ⟨List.mem_of_getElem? (i := 758) (by decide +kernel), by decide +kernel⟩
theorem ly_X8_23 : u_lay RX8 TX8 23 ∈ bigW := List.mem_filter.mpr ⟨List.mem_of_getElem? (i := 760) (by decide +kernel), by decide +kernel⟩
theorem ly_X8_24 : u_lay RX8 TX8 24 ∈ bigW := List.mem_filter.mpr ⟨List.mem_of_getElem? (i := 762) (by decide +kernel), by decide +kernel⟩
theorem ly_X8_25 : u_lay RX8 TX8 25 ∈ bigW := List.mem_filter.mpr ⟨List.mem_of_getElem? (i := 764) (by decide +kernel), by decide +kernel⟩
theorem ly_X8_26 : u_lay RX8 TX8 26 ∈ bigW := List.mem_filter.mpr ⟨List.mem_of_getElem? (i := 766) (by decide +kernel), by decide +kernel⟩
theorem ly_X8_27 : u_lay RX8 TX8 27 ∈ bigW := List.mem_filter.mpr ⟨List.mem_of_getElem? (i := 768) (by decide +kernel), by decide +kernel⟩
theorem ly_X8_28 : u_lay RX8 TX8 28 ∈ bigW := List.mem_filter.mpr ⟨List.mem_of_getElem? (i := 770) (by decide +kernel), by decide +kernel⟩
theorem ly_X8_29 : u_lay RX8 TX8 29 ∈ bigW := List.mem_filter.mpr ⟨List.mem_of_getElem? (i := 772) (by decide +kernel), by decide +kernel⟩
theorem wu_X8 : ∀ w ∈ u_ws RX8 TX8 30, w ∈ bigW := by
  intro w hw
  obtain ⟨k, hk, rfl⟩ := List.mem_map.mp hw
  have hk := List.mem_range.mp hk
  match k, hk with
  | 0, _ => exact ly_X8_0
  | 1, _ => exact ly_X8_1
  | 2, _ => exact ly_X8_2
  | 3, _ => exact ly_X8_3
  | 4, _ => exact ly_X8_4
  | 5, _ => exact ly_X8_5
  | 6, _ => exact ly_X8_6
  | 7, _ => exact ly_X8_7
  | 8, _ => exact ly_X8_8
  | 9, _ => exact ly_X8_9
  | 10, _ => exact ly_X8_10
  | 11, _ => exact ly_X8_11
  | 12, _ => exact ly_X8_12
  | 13, _ => exact ly_X8_13
  | 14, _ => exact ly_X8_14
  | 15, _ => exact ly_X8_15
  | 16, _ => exact ly_X8_16
  | 17, _ => exact ly_X8_17
  | 18, _ => exact ly_X8_18
  | 19, _ => exact ly_X8_19
  | 20, _ => exact ly_X8_20
  | 21, _ => exact ly_X8_21
  | 22, _ => exact ly_X8_22
  | 23, _ => exact ly_X8_23
  | 24, _ => exact ly_X8_24
  | 25, _ => exact ly_X8_25
  | 26, _ => exact ly_X8_26
  | 27, _ => exact ly_X8_27
  | 28, _ => exact ly_X8_28
  | 29, _ => exact ly_X8_29
  | k + 30, hk => exact absurd hk (by omega)
