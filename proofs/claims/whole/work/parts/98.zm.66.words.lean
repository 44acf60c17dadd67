theorem tk_1 : ∀ w ∈ tables_1_1, w ∈ lw_tbl := fun w h => List.mem_append_right _ (show w ∈ tables_1_1 ++ (tables_1_2 ++ (tables_1_3 ++ (tables_1_4 ++ (tables_1_5 ++ (tables_1_6 ++ (tables_1_7 ++ tables_1_8)))))) from List.mem_append_left _ h)
theorem tk_2 : ∀ w ∈ tables_1_2, w ∈ lw_tbl := fun w h => List.mem_append_right _ (show w ∈ tables_1_1 ++ (tables_1_2 ++ (tables_1_3 ++ (tables_1_4 ++ (tables_1_5 ++ (tables_1_6 ++ (tables_1_7 ++ tables_1_8)))))) from List.mem_append_right _ (List.mem_append_left _ h))
theorem tk_3 : ∀ w ∈ tables_1_3, w ∈ lw_tbl := fun w h => List.mem_append_right _ (show w ∈ tables_1_1 ++ (tables_1_2 ++ (tables_1_3 ++ (tables_1_4 ++ (tables_1_5 ++ (tables_1_6 ++ (tables_1_7 ++ tables_1_8)))))) from List.mem_append_right _ (List.mem_append_right _ (List.mem_append_left _ h)))
theorem tk_4 : ∀ w ∈ tables_1_4, w ∈ lw_tbl := fun w h => List.mem_append_right _ (show w ∈ tables_1_1 ++ (tables_1_2 ++ (tables_1_3 ++ (tables_1_4 ++ (tables_1_5 ++ (tables_1_6 ++ (tables_1_7 ++ tables_1_8)))))) from List.mem_append_right _ (List.mem_append_right _ (List.mem_append_right _ (List.mem_append_left _ h))))
theorem tk_5 : ∀ w ∈ tables_1_5, w ∈ lw_tbl := fun w h => List.mem_append_right _ (show w ∈ tables_1_1 ++ (tables_1_2 ++ (tables_1_3 ++ (tables_1_4 ++ (tables_1_5 ++ (tables_1_6 ++ (tables_1_7 ++ tables_1_8)))))) from List.mem_append_right _ (List.mem_append_right _ (List.mem_append_right _ (List.mem_append_right _ (List.mem_append_left _ h)))))
theorem tk_6 : ∀ w ∈ tables_1_6, w ∈ lw_tbl := fun w h => List.mem_append_right _ (show w ∈ tables_1_1 ++ (tables_1_2 ++ (tables_1_3 ++ (tables_1_4 ++ (tables_1_5 ++ (tables_1_6 ++ (tables_1_7 ++ tables_1_8)))))) from List.mem_append_right _ (List.mem_append_right _ (List.mem_append_right _ (List.mem_append_right _ (List.mem_append_right _ (List.mem_append_left _ h))))))
theorem tk_7 : ∀ w ∈ tables_1_7, w ∈ lw_tbl := fun w h => List.mem_append_right _ (show w ∈ tables_1_1 ++ (tables_1_2 ++ (tables_1_3 ++ (tables_1_4 ++ (tables_1_5 ++ (tables_1_6 ++ (tables_1_7 ++ tables_1_8)))))) from List.mem_append_right _ (List.mem_append_right _ (List.mem_append_right _ (List.mem_append_right _ (List.mem_append_right _ (List.mem_append_right _ (List.mem_append_left _ h)))))))
theorem tk_8 : ∀ w ∈ tables_1_8, w ∈ lw_tbl := fun w h => List.mem_append_right _ (show w ∈ tables_1_1 ++ (tables_1_2 ++ (tables_1_3 ++ (tables_1_4 ++ (tables_1_5 ++ (tables_1_6 ++ (tables_1_7 ++ tables_1_8)))))) from List.mem_append_right _ (List.mem_append_right _ (List.mem_append_right _ (List.mem_append_right _ (List.mem_append_right _ (List.mem_append_right _ (List.mem_append_right _ (h))))))))
theorem tw_0 : Cond.selects RX1 yX1_readClause yX1_readClause ∈ gw_ := gw_in (List.mem_of_getElem? (i := 0) (by decide +kernel)) rfl
theorem tw_1 : Cond.selects RX8 yX8_isWord yX8_isWord ∈ gw_ := gw_in (List.mem_of_getElem? (i := 1) (by decide +kernel)) rfl
theorem tw_2 : Cond.selects RX1 yX1_readStation yX1_readStation ∈ gw_ := gw_in (List.mem_of_getElem? (i := 2) (by decide +kernel)) rfl
theorem tw_3 : Cond.selects RX1 yX1_readVoters yX1_readVoters ∈ gw_ := gw_in (List.mem_of_getElem? (i := 3) (by decide +kernel)) rfl
theorem tw_4 : Cond.selects RX1 yX1_readSpoiled yX1_readSpoiled ∈ gw_ := gw_in (List.mem_of_getElem? (i := 4) (by decide +kernel)) rfl
theorem tw_5 : Cond.selects RX5 yX5_addToTally yX5_addToTally ∈ gw_ := gw_in (List.mem_of_getElem? (i := 5) (by decide +kernel)) rfl
theorem tw_6 : Cond.selects RX5 yX5_mark yX5_mark ∈ gw_ := gw_in (List.mem_of_getElem? (i := 6) (by decide +kernel)) rfl
theorem tw_7 : Cond.selects RX4 yX4_readSum yX4_readSum ∈ gw_ := gw_in (List.mem_of_getElem? (i := 7) (by decide +kernel)) rfl
theorem tw_8 : Cond.selects RX4 yX4_readValue yX4_readValue ∈ gw_ := gw_in (List.mem_of_getElem? (i := 8) (by decide +kernel)) rfl
theorem tw_9 : Cond.selects RX4 yX4_addCode yX4_addCode ∈ gw_ := gw_in (List.mem_of_getElem? (i := 9) (by decide +kernel)) rfl
theorem tw_10 : Cond.selects RX4 yX4_countPart yX4_countPart ∈ gw_ := gw_in (List.mem_of_getElem? (i := 10) (by decide +kernel)) rfl
theorem tw_11 : Cond.selects RX4 yX4_takeOperation yX4_takeOperation ∈ gw_ := gw_in (List.mem_of_getElem? (i := 11) (by decide +kernel)) rfl
theorem tw_12 : Cond.selects RX4 yX4_readTest yX4_readTest ∈ gw_ := gw_in (List.mem_of_getElem? (i := 12) (by decide +kernel)) rfl
theorem tw_13 : Cond.selects RX4 yX4_readFact yX4_readFact ∈ gw_ := gw_in (List.mem_of_getElem? (i := 13) (by decide +kernel)) rfl
theorem tw_14 : Cond.selects RX4 yX4_readBrackets yX4_readBrackets ∈ gw_ := gw_in (List.mem_of_getElem? (i := 14) (by decide +kernel)) rfl
theorem tw_15 : Cond.selects RX4 yX4_readComparison yX4_readComparison ∈ gw_ := gw_in (List.mem_of_getElem? (i := 15) (by decide +kernel)) rfl
theorem tw_16 : Cond.selects RX4 yX4_takeComparison yX4_takeComparison ∈ gw_ := gw_in (List.mem_of_getElem? (i := 16) (by decide +kernel)) rfl
theorem tw_17 : Cond.selects RX9 yX9_isStation yX9_isStation ∈ gw_ := gw_in (List.mem_of_getElem? (i := 17) (by decide +kernel)) rfl
theorem tw_18 : Cond.selects RX9 yX9_areTwo yX9_areTwo ∈ gw_ := gw_in (List.mem_of_getElem? (i := 18) (by decide +kernel)) rfl
theorem tw_19 : Cond.selects RX9 yX9_ruleInForce yX9_ruleInForce ∈ gw_ := gw_in (List.mem_of_getElem? (i := 19) (by decide +kernel)) rfl
theorem tw_20 : Cond.selects RX9 yX9_ruleNumbered yX9_ruleNumbered ∈ gw_ := gw_in (List.mem_of_getElem? (i := 20) (by decide +kernel)) rfl
theorem tw_21 : Cond.selects RX9 yX9_searchSlips yX9_searchSlips ∈ gw_ := gw_in (List.mem_of_getElem? (i := 21) (by decide +kernel)) rfl
theorem tw_22 : Cond.selects RX6 yX6_weigh yX6_weigh ∈ gw_ := gw_in (List.mem_of_getElem? (i := 22) (by decide +kernel)) rfl
theorem tw_23 : Cond.selects RX9 yX9_stationsThatMustSlip yX9_stationsThatMustSlip ∈ gw_ := gw_in (List.mem_of_getElem? (i := 23) (by decide +kernel)) rfl
theorem tw_24 : Cond.selects RX9 yX9_waitingAfterGift yX9_waitingAfterGift ∈ gw_ := gw_in (List.mem_of_getElem? (i := 24) (by decide +kernel)) rfl
theorem tw_25 : Cond.selects RX9 yX9_fillGains yX9_fillGains ∈ gw_ := gw_in (List.mem_of_getElem? (i := 25) (by decide +kernel)) rfl
theorem tw_26 : Cond.selects RX9 yX9_isRest yX9_isRest ∈ gw_ := gw_in (List.mem_of_getElem? (i := 26) (by decide +kernel)) rfl
theorem tw_27 : Cond.selects RX9 yX9_fillBoxesBehind yX9_fillBoxesBehind ∈ gw_ := gw_in (List.mem_of_getElem? (i := 27) (by decide +kernel)) rfl
theorem tw_28 : Cond.selects RX9 yX9_mostAlike yX9_mostAlike ∈ gw_ := gw_in (List.mem_of_getElem? (i := 28) (by decide +kernel)) rfl
theorem tw_29 : Cond.selects RX10 yX10_four yX10_four ∈ gw_ := gw_in (List.mem_of_getElem? (i := 29) (by decide +kernel)) rfl
theorem tw_30 : Cond.selects RX10 yX10_readsAll yX10_readsAll ∈ gw_ := gw_in (List.mem_of_getElem? (i := 30) (by decide +kernel)) rfl
theorem tw_31 : Cond.selects RX10 yX10_clauseHere yX10_clauseHere ∈ gw_ := gw_in (List.mem_of_getElem? (i := 31) (by decide +kernel)) rfl
theorem tw_32 : Cond.selects RX10 yX10_see yX10_see ∈ gw_ := gw_in (List.mem_of_getElem? (i := 32) (by decide +kernel)) rfl
theorem tw_33 : Cond.selects RX10 yX10_isElectionWord yX10_isElectionWord ∈ gw_ := gw_in (List.mem_of_getElem? (i := 33) (by decide +kernel)) rfl
theorem tw_34 : Cond.selects RX10 yX10_isWord yX10_isWord ∈ gw_ := gw_in (List.mem_of_getElem? (i := 34) (by decide +kernel)) rfl
theorem tw_35 : Cond.selects RX10 yX10_isLetter yX10_isLetter ∈ gw_ := gw_in (List.mem_of_getElem? (i := 35) (by decide +kernel)) rfl
theorem tw_36 : Cond.selects RX10 yX10_fails yX10_fails ∈ gw_ := gw_in (List.mem_of_getElem? (i := 36) (by decide +kernel)) rfl
theorem tw_37 : Cond.selects RX10 yX10_electionLineHere yX10_electionLineHere ∈ gw_ := gw_in (List.mem_of_getElem? (i := 37) (by decide +kernel)) rfl
theorem tw_38 : Cond.selects RX10 yX10_isPapersHere yX10_isPapersHere ∈ gw_ := gw_in (List.mem_of_getElem? (i := 38) (by decide +kernel)) rfl
theorem tw_39 : Cond.selects RX10 yX10_passWord yX10_passWord ∈ gw_ := gw_in (List.mem_of_getElem? (i := 39) (by decide +kernel)) rfl
theorem tw_40 : Cond.selects RX10 yX10_cellHere yX10_cellHere ∈ gw_ := gw_in (List.mem_of_getElem? (i := 40) (by decide +kernel)) rfl
theorem tw_41 : Cond.selects RX10 yX10_numberHere yX10_numberHere ∈ gw_ := gw_in (List.mem_of_getElem? (i := 41) (by decide +kernel)) rfl
theorem tw_42 : Cond.selects RX10 yX10_isDigit yX10_isDigit ∈ gw_ := gw_in (List.mem_of_getElem? (i := 42) (by decide +kernel)) rfl
theorem tw_43 : Cond.selects RX10 yX10_isStationHere yX10_isStationHere ∈ gw_ := gw_in (List.mem_of_getElem? (i := 43) (by decide +kernel)) rfl
theorem tw_44 : Cond.selects RX10 yX10_isFreeTold yX10_isFreeTold ∈ gw_ := gw_in (List.mem_of_getElem? (i := 44) (by decide +kernel)) rfl
theorem tw_45 : Cond.selects RX10 yX10_isVotersHere yX10_isVotersHere ∈ gw_ := gw_in (List.mem_of_getElem? (i := 45) (by decide +kernel)) rfl
theorem tw_46 : Cond.selects RX10 yX10_isSpoiledHere yX10_isSpoiledHere ∈ gw_ := gw_in (List.mem_of_getElem? (i := 46) (by decide +kernel)) rfl
theorem tw_47 : Cond.selects RX10 yX10_isServeHere yX10_isServeHere ∈ gw_ := gw_in (List.mem_of_getElem? (i := 47) (by decide +kernel)) rfl
theorem tw_48 : Cond.selects RX10 yX10_sum yX10_sum ∈ gw_ := gw_in (List.mem_of_getElem? (i := 48) (by decide +kernel)) rfl
theorem tw_49 : Cond.selects RX10 yX10_term yX10_term ∈ gw_ := gw_in (List.mem_of_getElem? (i := 49) (by decide +kernel)) rfl
theorem tw_50 : Cond.selects RX10 yX10_value yX10_value ∈ gw_ := gw_in (List.mem_of_getElem? (i := 50) (by decide +kernel)) rfl
theorem tw_51 : Cond.selects RX10 yX10_makes yX10_makes ∈ gw_ := gw_in (List.mem_of_getElem? (i := 51) (by decide +kernel)) rfl
theorem tw_52 : Cond.selects RX10 yX10_puts yX10_puts ∈ gw_ := gw_in (List.mem_of_getElem? (i := 52) (by decide +kernel)) rfl
theorem tw_53 : Cond.selects RX10 yX10_wordHere yX10_wordHere ∈ gw_ := gw_in (List.mem_of_getElem? (i := 53) (by decide +kernel)) rfl
theorem tw_54 : Cond.selects RX10 yX10_takesWord yX10_takesWord ∈ gw_ := gw_in (List.mem_of_getElem? (i := 54) (by decide +kernel)) rfl
theorem tw_55 : Cond.selects RX10 yX10_tested yX10_tested ∈ gw_ := gw_in (List.mem_of_getElem? (i := 55) (by decide +kernel)) rfl
theorem tw_56 : Cond.selects RX10 yX10_fact yX10_fact ∈ gw_ := gw_in (List.mem_of_getElem? (i := 56) (by decide +kernel)) rfl
theorem tw_57 : Cond.selects RX10 yX10_opens yX10_opens ∈ gw_ := gw_in (List.mem_of_getElem? (i := 57) (by decide +kernel)) rfl
theorem tw_58 : Cond.selects RX10 yX10_compare yX10_compare ∈ gw_ := gw_in (List.mem_of_getElem? (i := 58) (by decide +kernel)) rfl
theorem tw_59 : Cond.selects RX10 yX10_closes yX10_closes ∈ gw_ := gw_in (List.mem_of_getElem? (i := 59) (by decide +kernel)) rfl
theorem tw_60 : Cond.selects RX10 yX10_layDown yX10_layDown ∈ gw_ := gw_in (List.mem_of_getElem? (i := 60) (by decide +kernel)) rfl
theorem tw_61 : Cond.selects RX10 yX10_isInside yX10_isInside ∈ gw_ := gw_in (List.mem_of_getElem? (i := 61) (by decide +kernel)) rfl
theorem tw_62 : Cond.selects RX10 yX10_begins yX10_begins ∈ gw_ := gw_in (List.mem_of_getElem? (i := 62) (by decide +kernel)) rfl
theorem tw_63 : Cond.selects RX10 yX10_laysIn yX10_laysIn ∈ gw_ := gw_in (List.mem_of_getElem? (i := 63) (by decide +kernel)) rfl
theorem tw_64 : Cond.selects RX10 yX10_isRule yX10_isRule ∈ gw_ := gw_in (List.mem_of_getElem? (i := 64) (by decide +kernel)) rfl
theorem tw_65 : Cond.selects RX10 yX10_isStation yX10_isStation ∈ gw_ := gw_in (List.mem_of_getElem? (i := 65) (by decide +kernel)) rfl
theorem tw_66 : Cond.selects RX10 yX10_manyIn yX10_manyIn ∈ gw_ := gw_in (List.mem_of_getElem? (i := 66) (by decide +kernel)) rfl
theorem tw_67 : Cond.selects RX10 yX10_isIn yX10_isIn ∈ gw_ := gw_in (List.mem_of_getElem? (i := 67) (by decide +kernel)) rfl
theorem tw_68 : Cond.selects RX10 yX10_isPaper yX10_isPaper ∈ gw_ := gw_in (List.mem_of_getElem? (i := 68) (by decide +kernel)) rfl
theorem tw_69 : Cond.selects RX10 yX10_hadBy yX10_hadBy ∈ gw_ := gw_in (List.mem_of_getElem? (i := 69) (by decide +kernel)) rfl
theorem tw_70 : Cond.selects RX10 yX10_aheadOf yX10_aheadOf ∈ gw_ := gw_in (List.mem_of_getElem? (i := 70) (by decide +kernel)) rfl
theorem tw_71 : Cond.selects RX10 yX10_atPlace yX10_atPlace ∈ gw_ := gw_in (List.mem_of_getElem? (i := 71) (by decide +kernel)) rfl
theorem tw_72 : Cond.selects RX10 yX10_runsOf yX10_runsOf ∈ gw_ := gw_in (List.mem_of_getElem? (i := 72) (by decide +kernel)) rfl
theorem tw_73 : Cond.selects RX10 yX10_isFirstOfRun yX10_isFirstOfRun ∈ gw_ := gw_in (List.mem_of_getElem? (i := 73) (by decide +kernel)) rfl
theorem tw_74 : Cond.selects RX10 yX10_isElection yX10_isElection ∈ gw_ := gw_in (List.mem_of_getElem? (i := 74) (by decide +kernel)) rfl
theorem tw_75 : Cond.selects RX10 yX10_keepsAct yX10_keepsAct ∈ gw_ := gw_in (List.mem_of_getElem? (i := 75) (by decide +kernel)) rfl
theorem tw_76 : Cond.selects RX10 yX10_passes yX10_passes ∈ gw_ := gw_in (List.mem_of_getElem? (i := 76) (by decide +kernel)) rfl
theorem tw_77 : Cond.selects RX10 yX10_choice yX10_choice ∈ gw_ := gw_in (List.mem_of_getElem? (i := 77) (by decide +kernel)) rfl
theorem tw_78 : Cond.selects RX10 yX10_canServe yX10_canServe ∈ gw_ := gw_in (List.mem_of_getElem? (i := 78) (by decide +kernel)) rfl
theorem tw_79 : Cond.selects RX10 yX10_leastOf yX10_leastOf ∈ gw_ := gw_in (List.mem_of_getElem? (i := 79) (by decide +kernel)) rfl
theorem tw_80 : Cond.selects RX10 yX10_sumOf yX10_sumOf ∈ gw_ := gw_in (List.mem_of_getElem? (i := 80) (by decide +kernel)) rfl
theorem tw_81 : Cond.selects RX10 yX10_waitAll yX10_waitAll ∈ gw_ := gw_in (List.mem_of_getElem? (i := 81) (by decide +kernel)) rfl
theorem tw_82 : Cond.selects RX10 yX10_allIn yX10_allIn ∈ gw_ := gw_in (List.mem_of_getElem? (i := 82) (by decide +kernel)) rfl
theorem tw_83 : Cond.selects RX10 yX10_summedBy yX10_summedBy ∈ gw_ := gw_in (List.mem_of_getElem? (i := 83) (by decide +kernel)) rfl
theorem tw_84 : Cond.selects RX10 yX10_reckons yX10_reckons ∈ gw_ := gw_in (List.mem_of_getElem? (i := 84) (by decide +kernel)) rfl
theorem tw_85 : Cond.selects RX10 yX10_push yX10_push ∈ gw_ := gw_in (List.mem_of_getElem? (i := 85) (by decide +kernel)) rfl
theorem tw_86 : Cond.selects RX10 yX10_pop yX10_pop ∈ gw_ := gw_in (List.mem_of_getElem? (i := 86) (by decide +kernel)) rfl
theorem tw_87 : Cond.selects RX10 yX10_serves yX10_serves ∈ gw_ := gw_in (List.mem_of_getElem? (i := 87) (by decide +kernel)) rfl
theorem tw_88 : Cond.selects RX10 yX10_areUnlike yX10_areUnlike ∈ gw_ := gw_in (List.mem_of_getElem? (i := 88) (by decide +kernel)) rfl
theorem tw_89 : Cond.selects RX10 yX10_comes yX10_comes ∈ gw_ := gw_in (List.mem_of_getElem? (i := 89) (by decide +kernel)) rfl
theorem tw_90 : Cond.selects RX10 yX10_lends yX10_lends ∈ gw_ := gw_in (List.mem_of_getElem? (i := 90) (by decide +kernel)) rfl
theorem tw_91 : Cond.selects RX10 yX10_greatestOf yX10_greatestOf ∈ gw_ := gw_in (List.mem_of_getElem? (i := 91) (by decide +kernel)) rfl
theorem tw_92 : Cond.selects RX10 yX10_toldMany yX10_toldMany ∈ gw_ := gw_in (List.mem_of_getElem? (i := 92) (by decide +kernel)) rfl
theorem tw_93 : Cond.selects RX10 yX10_recounts yX10_recounts ∈ gw_ := gw_in (List.mem_of_getElem? (i := 93) (by decide +kernel)) rfl
theorem tw_94 : Cond.selects RX10 yX10_balanceOf yX10_balanceOf ∈ gw_ := gw_in (List.mem_of_getElem? (i := 94) (by decide +kernel)) rfl
theorem tw_95 : Cond.selects RX10 yX10_isAllTold yX10_isAllTold ∈ gw_ := gw_in (List.mem_of_getElem? (i := 95) (by decide +kernel)) rfl
theorem tw_96 : Cond.selects RX10 yX10_fewest yX10_fewest ∈ gw_ := gw_in (List.mem_of_getElem? (i := 96) (by decide +kernel)) rfl
theorem tw_97 : Cond.selects RX10 yX10_balances yX10_balances ∈ gw_ := gw_in (List.mem_of_getElem? (i := 97) (by decide +kernel)) rfl
theorem tw_98 : Cond.selects RX10 yX10_recountedOnes yX10_recountedOnes ∈ gw_ := gw_in (List.mem_of_getElem? (i := 98) (by decide +kernel)) rfl
theorem tw_99 : Cond.selects RX10 yX10_seeks yX10_seeks ∈ gw_ := gw_in (List.mem_of_getElem? (i := 99) (by decide +kernel)) rfl
theorem tw_100 : Cond.selects RX10 yX10_slipsNow yX10_slipsNow ∈ gw_ := gw_in (List.mem_of_getElem? (i := 100) (by decide +kernel)) rfl
theorem tw_101 : Cond.selects RX10 yX10_tensAll yX10_tensAll ∈ gw_ := gw_in (List.mem_of_getElem? (i := 101) (by decide +kernel)) rfl
theorem tw_102 : Cond.selects RX10 yX10_nextTens yX10_nextTens ∈ gw_ := gw_in (List.mem_of_getElem? (i := 102) (by decide +kernel)) rfl
theorem tw_103 : Cond.selects RX10 yX10_freeOnes yX10_freeOnes ∈ gw_ := gw_in (List.mem_of_getElem? (i := 103) (by decide +kernel)) rfl
theorem tw_104 : Cond.selects RX10 yX10_keeps yX10_keeps ∈ gw_ := gw_in (List.mem_of_getElem? (i := 104) (by decide +kernel)) rfl
theorem tw_105 : Cond.selects RX10 yX10_laysBack yX10_laysBack ∈ gw_ := gw_in (List.mem_of_getElem? (i := 105) (by decide +kernel)) rfl
theorem tw_106 : Cond.selects RX10 yX10_passesAll yX10_passesAll ∈ gw_ := gw_in (List.mem_of_getElem? (i := 106) (by decide +kernel)) rfl
theorem tw_107 : Cond.selects RX10 yX10_waitIn yX10_waitIn ∈ gw_ := gw_in (List.mem_of_getElem? (i := 107) (by decide +kernel)) rfl
theorem tw_108 : Cond.selects RX10 yX10_fillsRest yX10_fillsRest ∈ gw_ := gw_in (List.mem_of_getElem? (i := 108) (by decide +kernel)) rfl
theorem tw_109 : Cond.selects RX10 yX10_isRest yX10_isRest ∈ gw_ := gw_in (List.mem_of_getElem? (i := 109) (by decide +kernel)) rfl
theorem tw_110 : Cond.selects RX10 yX10_fillsFits yX10_fillsFits ∈ gw_ := gw_in (List.mem_of_getElem? (i := 110) (by decide +kernel)) rfl
theorem tw_111 : Cond.selects RX10 yX10_areAllSo yX10_areAllSo ∈ gw_ := gw_in (List.mem_of_getElem? (i := 111) (by decide +kernel)) rfl
theorem tw_112 : Cond.selects RX10 yX10_areNotesSo yX10_areNotesSo ∈ gw_ := gw_in (List.mem_of_getElem? (i := 112) (by decide +kernel)) rfl
theorem tw_113 : Cond.selects RX10 yX10_alikeAt yX10_alikeAt ∈ gw_ := gw_in (List.mem_of_getElem? (i := 113) (by decide +kernel)) rfl
theorem tw_114 : Cond.selects RX10 yX10_draw yX10_draw ∈ gw_ := gw_in (List.mem_of_getElem? (i := 114) (by decide +kernel)) rfl
theorem tw_115 : Cond.selects RX10 yX10_crowdsOn yX10_crowdsOn ∈ gw_ := gw_in (List.mem_of_getElem? (i := 115) (by decide +kernel)) rfl
theorem tw_116 : Cond.selects RX10 yX10_servers yX10_servers ∈ gw_ := gw_in (List.mem_of_getElem? (i := 116) (by decide +kernel)) rfl
theorem tw_118 : Cond.initialized RX9 ∈ gw_ := gw_in (tk_1 _ (List.mem_of_getElem? (i := 1) (by decide +kernel))) rfl
theorem tw_119 : Cond.initialized RX8 ∈ gw_ := gw_in (tk_1 _ (List.mem_of_getElem? (i := 2) (by decide +kernel))) rfl
theorem tw_120 : Cond.initialized RX1 ∈ gw_ := gw_in (tk_1 _ (List.mem_of_getElem? (i := 3) (by decide +kernel))) rfl
theorem tw_121 : Cond.initialized RX4 ∈ gw_ := gw_in (tk_1 _ (List.mem_of_getElem? (i := 4) (by decide +kernel))) rfl
theorem tw_122 : Cond.initialized RX0 ∈ gw_ := gw_in (tk_1 _ (List.mem_of_getElem? (i := 5) (by decide +kernel))) rfl
theorem tw_123 : Cond.initialized RX5 ∈ gw_ := gw_in (tk_1 _ (List.mem_of_getElem? (i := 6) (by decide +kernel))) rfl
theorem tw_124 : Cond.initialized RX7 ∈ gw_ := gw_in (tk_1 _ (List.mem_of_getElem? (i := 7) (by decide +kernel))) rfl
theorem tw_125 : Cond.initialized RJ7 ∈ gw_ := gw_in (tk_1 _ (List.mem_of_getElem? (i := 8) (by decide +kernel))) rfl
theorem tw_126 : Cond.initialized RX2 ∈ gw_ := gw_in (tk_1 _ (List.mem_of_getElem? (i := 9) (by decide +kernel))) rfl
theorem tw_127 : Cond.initialized RX6 ∈ gw_ := gw_in (tk_1 _ (List.mem_of_getElem? (i := 10) (by decide +kernel))) rfl
theorem tw_128 : Cond.initialized RX10 ∈ gw_ := gw_in (tk_1 _ (List.mem_of_getElem? (i := 11) (by decide +kernel))) rfl
theorem tw_129 : Cond.initialized RJ0 ∈ gw_ := gw_in (tk_1 _ (List.mem_of_getElem? (i := 12) (by decide +kernel))) rfl
theorem tw_130 : Cond.initialized RJ1 ∈ gw_ := gw_in (tk_1 _ (List.mem_of_getElem? (i := 13) (by decide +kernel))) rfl
theorem tw_131 : Cond.initialized RJ3 ∈ gw_ := gw_in (tk_1 _ (List.mem_of_getElem? (i := 14) (by decide +kernel))) rfl
theorem tw_134 : Cond.initialized RJ13 ∈ gw_ := gw_in (tk_1 _ (List.mem_of_getElem? (i := 17) (by decide +kernel))) rfl
theorem tw_135 : Cond.initialized RX3 ∈ gw_ := gw_in (tk_1 _ (List.mem_of_getElem? (i := 18) (by decide +kernel))) rfl
theorem tw_136 : Cond.initialized RJ9 ∈ gw_ := gw_in (tk_1 _ (List.mem_of_getElem? (i := 19) (by decide +kernel))) rfl
theorem tw_137 : Cond.initialized RJ10 ∈ gw_ := gw_in (tk_1 _ (List.mem_of_getElem? (i := 20) (by decide +kernel))) rfl
theorem tw_138 : Cond.initialized RJ6 ∈ gw_ := gw_in (tk_1 _ (List.mem_of_getElem? (i := 21) (by decide +kernel))) rfl
theorem tw_143 : Cond.code yX9_init cX9_init 1 none ∈ gw_ := gw_in (tk_1 _ (List.mem_of_getElem? (i := 26) (by decide +kernel))) rfl
theorem tw_144 : Cond.methodLink RX9 1 objectInit ∈ gw_ := gw_in (tk_1 _ (List.mem_of_getElem? (i := 27) (by decide +kernel))) rfl
theorem tw_145 : Cond.instanceMethod objectInit ∈ gw_ := gw_in (tk_1 _ (List.mem_of_getElem? (i := 28) (by decide +kernel))) rfl
theorem tw_146 : Cond.code objectInit ⟨#[0xb1]⟩ 1 none ∈ gw_ := gw_in (tk_1 _ (List.mem_of_getElem? (i := 29) (by decide +kernel))) rfl
theorem tw_147 : Cond.classLink RX9 7 RX8 ∈ gw_ := gw_in (tk_1 _ (List.mem_of_getElem? (i := 30) (by decide +kernel))) rfl
theorem tw_148 : Cond.instantiable RX8 5 ∈ gw_ := gw_in (tk_1 _ (List.mem_of_getElem? (i := 31) (by decide +kernel))) rfl
theorem tn_149 : Cond.methodLinkNest RX9 9 yX8_init "BallotBook" ∈ lw_tbl := tk_1 _ (List.mem_of_getElem? (i := 32) (by decide +kernel))
theorem tw_150 : Cond.instanceMethod yX8_init ∈ gw_ := gw_in (tk_1 _ (List.mem_of_getElem? (i := 33) (by decide +kernel))) rfl
theorem tw_151 : Cond.code yX8_init cX8_init 1 none ∈ gw_ := gw_in (tk_1 _ (List.mem_of_getElem? (i := 34) (by decide +kernel))) rfl
theorem tw_152 : Cond.methodLink RX8 3 objectInit ∈ gw_ := gw_in (tk_1 _ (List.mem_of_getElem? (i := 35) (by decide +kernel))) rfl
theorem tw_153 : Cond.fieldLink RX8 9 "BallotBook$Tape" "bytes" "[I" ∈ gw_ := gw_in (tk_1 _ (List.mem_of_getElem? (i := 36) (by decide +kernel))) rfl
theorem tw_154 : Cond.fieldLink RX4 99 "BallotBook$Tape" "bytes" "[I" ∈ gw_ := gw_in (tk_1 _ (List.mem_of_getElem? (i := 37) (by decide +kernel))) rfl
theorem tw_155 : Cond.fieldLink RX9 80 "BallotBook$Tape" "length" "I" ∈ gw_ := gw_in (tk_1 _ (List.mem_of_getElem? (i := 38) (by decide +kernel))) rfl
theorem tw_156 : Cond.fieldLink RX8 15 "BallotBook$Tape" "length" "I" ∈ gw_ := gw_in (tk_1 _ (List.mem_of_getElem? (i := 39) (by decide +kernel))) rfl
theorem tw_157 : Cond.fieldLink RX4 96 "BallotBook$Tape" "length" "I" ∈ gw_ := gw_in (tk_1 _ (List.mem_of_getElem? (i := 40) (by decide +kernel))) rfl
theorem tw_158 : Cond.fieldLink RX4 35 "BallotBook$Tape" "at" "I" ∈ gw_ := gw_in (tk_1 _ (List.mem_of_getElem? (i := 41) (by decide +kernel))) rfl
theorem tw_159 : Cond.fieldLink RX1 57 "BallotBook$Tape" "at" "I" ∈ gw_ := gw_in (tk_1 _ (List.mem_of_getElem? (i := 42) (by decide +kernel))) rfl
theorem tw_160 : Cond.fieldLink RX8 19 "BallotBook$Tape" "at" "I" ∈ gw_ := gw_in (tk_1 _ (List.mem_of_getElem? (i := 43) (by decide +kernel))) rfl
theorem tw_161 : Cond.fieldLink RX1 87 "BallotBook$Tape" "numberAt" "I" ∈ gw_ := gw_in (tk_1 _ (List.mem_of_getElem? (i := 44) (by decide +kernel))) rfl
theorem tw_162 : Cond.fieldLink RX8 41 "BallotBook$Tape" "numberAt" "I" ∈ gw_ := gw_in (tk_1 _ (List.mem_of_getElem? (i := 45) (by decide +kernel))) rfl
theorem tw_163 : Cond.fieldLink RX8 22 "BallotBook$Tape" "fault" "I" ∈ gw_ := gw_in (tk_1 _ (List.mem_of_getElem? (i := 46) (by decide +kernel))) rfl
theorem tw_164 : Cond.fieldLink RX9 92 "BallotBook$Tape" "fault" "I" ∈ gw_ := gw_in (tk_1 _ (List.mem_of_getElem? (i := 47) (by decide +kernel))) rfl
theorem tw_176 : Cond.arrayClass .int ∈ gw_ := gw_in (tk_1 _ (List.mem_of_getElem? (i := 59) (by decide +kernel))) rfl
theorem tw_177 : Cond.classLink RX9 16 RX1 ∈ gw_ := gw_in (tk_1 _ (List.mem_of_getElem? (i := 60) (by decide +kernel))) rfl
theorem tw_178 : Cond.instantiable RX1 7 ∈ gw_ := gw_in (tk_1 _ (List.mem_of_getElem? (i := 61) (by decide +kernel))) rfl
theorem tw_179 : Cond.methodLink RX9 18 yX1_init ∈ gw_ := gw_in (tk_1 _ (List.mem_of_getElem? (i := 62) (by decide +kernel))) rfl
theorem tw_180 : Cond.instanceMethod yX1_init ∈ gw_ := gw_in (tk_1 _ (List.mem_of_getElem? (i := 63) (by decide +kernel))) rfl
theorem tw_181 : Cond.code yX1_init cX1_init 2 none ∈ gw_ := gw_in (tk_1 _ (List.mem_of_getElem? (i := 64) (by decide +kernel))) rfl
theorem tw_182 : Cond.methodLink RX1 3 objectInit ∈ gw_ := gw_in (tk_1 _ (List.mem_of_getElem? (i := 65) (by decide +kernel))) rfl
theorem tw_183 : Cond.fieldLink RX1 19 "BallotBook$ElectionReader" "tape" "LBallotBook$Tape;" ∈ gw_ := gw_in (tk_1 _ (List.mem_of_getElem? (i := 66) (by decide +kernel))) rfl
theorem tw_184 : Cond.fieldLink RX1 9 "BallotBook$ElectionReader" "numbers" "[J" ∈ gw_ := gw_in (tk_1 _ (List.mem_of_getElem? (i := 67) (by decide +kernel))) rfl
theorem tw_185 : Cond.fieldLink RX1 15 "BallotBook$ElectionReader" "voters" "[I" ∈ gw_ := gw_in (tk_1 _ (List.mem_of_getElem? (i := 68) (by decide +kernel))) rfl
theorem tw_186 : Cond.fieldLink RX1 34 "BallotBook$ElectionReader" "owned" "J" ∈ gw_ := gw_in (tk_1 _ (List.mem_of_getElem? (i := 69) (by decide +kernel))) rfl
theorem tw_187 : Cond.fieldLink RX1 38 "BallotBook$ElectionReader" "spoilt" "J" ∈ gw_ := gw_in (tk_1 _ (List.mem_of_getElem? (i := 70) (by decide +kernel))) rfl
theorem tw_188 : Cond.fieldLink RX1 74 "BallotBook$ElectionReader" "printed" "I" ∈ gw_ := gw_in (tk_1 _ (List.mem_of_getElem? (i := 71) (by decide +kernel))) rfl
theorem tw_189 : Cond.fieldLink RX1 41 "BallotBook$ElectionReader" "stations" "I" ∈ gw_ := gw_in (tk_1 _ (List.mem_of_getElem? (i := 72) (by decide +kernel))) rfl
theorem tw_205 : Cond.arrayClass .long ∈ gw_ := gw_in (tk_1 _ (List.mem_of_getElem? (i := 88) (by decide +kernel))) rfl
theorem tw_206 : Cond.classLink RX9 25 RX4 ∈ gw_ := gw_in (tk_1 _ (List.mem_of_getElem? (i := 89) (by decide +kernel))) rfl
theorem tw_207 : Cond.instantiable RX4 4 ∈ gw_ := gw_in (tk_1 _ (List.mem_of_getElem? (i := 90) (by decide +kernel))) rfl
theorem tw_208 : Cond.methodLink RX9 27 yX4_init ∈ gw_ := gw_in (tk_1 _ (List.mem_of_getElem? (i := 91) (by decide +kernel))) rfl
theorem tw_209 : Cond.instanceMethod yX4_init ∈ gw_ := gw_in (tk_1 _ (List.mem_of_getElem? (i := 92) (by decide +kernel))) rfl
theorem tw_210 : Cond.code yX4_init cX4_init 2 none ∈ gw_ := gw_in (tk_1 _ (List.mem_of_getElem? (i := 93) (by decide +kernel))) rfl
theorem tw_211 : Cond.methodLink RX4 3 objectInit ∈ gw_ := gw_in (tk_1 _ (List.mem_of_getElem? (i := 94) (by decide +kernel))) rfl
theorem tw_212 : Cond.fieldLink RX4 15 "BallotBook$RuleReader" "tape" "LBallotBook$Tape;" ∈ gw_ := gw_in (tk_1 _ (List.mem_of_getElem? (i := 95) (by decide +kernel))) rfl
theorem tw_213 : Cond.fieldLink RX4 9 "BallotBook$RuleReader" "code" "[I" ∈ gw_ := gw_in (tk_1 _ (List.mem_of_getElem? (i := 96) (by decide +kernel))) rfl
theorem tw_214 : Cond.fieldLink RX4 24 "BallotBook$RuleReader" "used" "I" ∈ gw_ := gw_in (tk_1 _ (List.mem_of_getElem? (i := 97) (by decide +kernel))) rfl
theorem tw_215 : Cond.fieldLink RX4 28 "BallotBook$RuleReader" "parts" "I" ∈ gw_ := gw_in (tk_1 _ (List.mem_of_getElem? (i := 98) (by decide +kernel))) rfl
theorem tw_225 : Cond.classLink RX9 32 RX3 ∈ gw_ := gw_in (tk_1 _ (List.mem_of_getElem? (i := 108) (by decide +kernel))) rfl
theorem tw_227 : Cond.classLink RX9 38 RX0 ∈ gw_ := gw_in (tk_1 _ (List.mem_of_getElem? (i := 110) (by decide +kernel))) rfl
theorem tw_228 : Cond.instantiable RX0 9 ∈ gw_ := gw_in (tk_1 _ (List.mem_of_getElem? (i := 111) (by decide +kernel))) rfl
theorem tn_229 : Cond.methodLinkNest RX9 40 yX0_init "BallotBook" ∈ lw_tbl := tk_1 _ (List.mem_of_getElem? (i := 112) (by decide +kernel))
theorem tw_230 : Cond.instanceMethod yX0_init ∈ gw_ := gw_in (tk_1 _ (List.mem_of_getElem? (i := 113) (by decide +kernel))) rfl
theorem tw_231 : Cond.code yX0_init cX0_init 1 none ∈ gw_ := gw_in (tk_1 _ (List.mem_of_getElem? (i := 114) (by decide +kernel))) rfl
theorem tw_232 : Cond.methodLink RX0 3 objectInit ∈ gw_ := gw_in (tk_1 _ (List.mem_of_getElem? (i := 115) (by decide +kernel))) rfl
theorem tw_233 : Cond.classLink RX0 9 RX5 ∈ gw_ := gw_in (tk_1 _ (List.mem_of_getElem? (i := 116) (by decide +kernel))) rfl
theorem tw_234 : Cond.instantiable RX5 10 ∈ gw_ := gw_in (tk_1 _ (List.mem_of_getElem? (i := 117) (by decide +kernel))) rfl
theorem tw_235 : Cond.methodLink RX0 11 yX5_init ∈ gw_ := gw_in (tk_1 _ (List.mem_of_getElem? (i := 118) (by decide +kernel))) rfl
theorem tw_236 : Cond.instanceMethod yX5_init ∈ gw_ := gw_in (tk_1 _ (List.mem_of_getElem? (i := 119) (by decide +kernel))) rfl
theorem tw_237 : Cond.code yX5_init cX5_init 1 none ∈ gw_ := gw_in (tk_1 _ (List.mem_of_getElem? (i := 120) (by decide +kernel))) rfl
theorem tw_238 : Cond.methodLink RX5 3 objectInit ∈ gw_ := gw_in (tk_1 _ (List.mem_of_getElem? (i := 121) (by decide +kernel))) rfl
theorem tw_239 : Cond.classLink RX5 9 RX7 ∈ gw_ := gw_in (tk_1 _ (List.mem_of_getElem? (i := 122) (by decide +kernel))) rfl
theorem tw_240 : Cond.instantiable RX7 8 ∈ gw_ := gw_in (tk_1 _ (List.mem_of_getElem? (i := 123) (by decide +kernel))) rfl
theorem tn_241 : Cond.methodLinkNest RX5 11 yX7_init "BallotBook" ∈ lw_tbl := tk_1 _ (List.mem_of_getElem? (i := 124) (by decide +kernel))
theorem tw_242 : Cond.instanceMethod yX7_init ∈ gw_ := gw_in (tk_1 _ (List.mem_of_getElem? (i := 125) (by decide +kernel))) rfl
theorem tw_243 : Cond.code yX7_init cX7_init 1 none ∈ gw_ := gw_in (tk_1 _ (List.mem_of_getElem? (i := 126) (by decide +kernel))) rfl
theorem tw_244 : Cond.methodLink RX7 3 objectInit ∈ gw_ := gw_in (tk_1 _ (List.mem_of_getElem? (i := 127) (by decide +kernel))) rfl
theorem tw_245 : Cond.fieldLink RX7 9 "BallotBook$Tally" "stock" "[J" ∈ gw_ := gw_in (tk_1 _ (List.mem_of_getElem? (i := 128) (by decide +kernel))) rfl
theorem tw_246 : Cond.fieldLink RX5 74 "BallotBook$Tally" "stock" "[J" ∈ gw_ := gw_in (tk_1 _ (List.mem_of_getElem? (i := 129) (by decide +kernel))) rfl
theorem tw_247 : Cond.fieldLink RX9 168 "BallotBook$Tally" "stock" "[J" ∈ gw_ := gw_in (tk_1 _ (List.mem_of_getElem? (i := 130) (by decide +kernel))) rfl
theorem tw_248 : Cond.fieldLink RX7 15 "BallotBook$Tally" "box" "[I" ∈ gw_ := gw_in (tk_1 _ (List.mem_of_getElem? (i := 131) (by decide +kernel))) rfl
theorem tw_249 : Cond.fieldLink RX0 72 "BallotBook$Tally" "box" "[I" ∈ gw_ := gw_in (tk_1 _ (List.mem_of_getElem? (i := 132) (by decide +kernel))) rfl
theorem tw_250 : Cond.fieldLink RX5 97 "BallotBook$Tally" "box" "[I" ∈ gw_ := gw_in (tk_1 _ (List.mem_of_getElem? (i := 133) (by decide +kernel))) rfl
theorem tw_251 : Cond.fieldLink RX9 213 "BallotBook$Tally" "box" "[I" ∈ gw_ := gw_in (tk_1 _ (List.mem_of_getElem? (i := 134) (by decide +kernel))) rfl
theorem tw_252 : Cond.fieldLink RX7 19 "BallotBook$Tally" "spoilt" "[I" ∈ gw_ := gw_in (tk_1 _ (List.mem_of_getElem? (i := 135) (by decide +kernel))) rfl
theorem tw_253 : Cond.fieldLink RX5 100 "BallotBook$Tally" "spoilt" "[I" ∈ gw_ := gw_in (tk_1 _ (List.mem_of_getElem? (i := 136) (by decide +kernel))) rfl
theorem tw_254 : Cond.fieldLink RX9 230 "BallotBook$Tally" "spoilt" "[I" ∈ gw_ := gw_in (tk_1 _ (List.mem_of_getElem? (i := 137) (by decide +kernel))) rfl
theorem tw_255 : Cond.fieldLink RX7 22 "BallotBook$Tally" "waiting" "[I" ∈ gw_ := gw_in (tk_1 _ (List.mem_of_getElem? (i := 138) (by decide +kernel))) rfl
theorem tw_256 : Cond.fieldLink RX1 112 "BallotBook$Tally" "waiting" "[I" ∈ gw_ := gw_in (tk_1 _ (List.mem_of_getElem? (i := 139) (by decide +kernel))) rfl
theorem tw_257 : Cond.fieldLink RX9 233 "BallotBook$Tally" "waiting" "[I" ∈ gw_ := gw_in (tk_1 _ (List.mem_of_getElem? (i := 140) (by decide +kernel))) rfl
theorem tw_258 : Cond.fieldLink RX7 34 "BallotBook$Tally" "stations" "I" ∈ gw_ := gw_in (tk_1 _ (List.mem_of_getElem? (i := 141) (by decide +kernel))) rfl
theorem tw_259 : Cond.fieldLink RX9 125 "BallotBook$Tally" "stations" "I" ∈ gw_ := gw_in (tk_1 _ (List.mem_of_getElem? (i := 142) (by decide +kernel))) rfl
theorem tw_260 : Cond.fieldLink RX1 100 "BallotBook$Tally" "stations" "I" ∈ gw_ := gw_in (tk_1 _ (List.mem_of_getElem? (i := 143) (by decide +kernel))) rfl
theorem tw_261 : Cond.fieldLink RX7 38 "BallotBook$Tally" "hours" "I" ∈ gw_ := gw_in (tk_1 _ (List.mem_of_getElem? (i := 144) (by decide +kernel))) rfl
theorem tw_262 : Cond.fieldLink RX9 197 "BallotBook$Tally" "hours" "I" ∈ gw_ := gw_in (tk_1 _ (List.mem_of_getElem? (i := 145) (by decide +kernel))) rfl
theorem tw_263 : Cond.fieldLink RX5 123 "BallotBook$Tally" "hours" "I" ∈ gw_ := gw_in (tk_1 _ (List.mem_of_getElem? (i := 146) (by decide +kernel))) rfl
theorem tw_264 : Cond.fieldLink RX7 56 "BallotBook$Tally" "crowd" "I" ∈ gw_ := gw_in (tk_1 _ (List.mem_of_getElem? (i := 147) (by decide +kernel))) rfl
theorem tw_265 : Cond.fieldLink RX7 59 "BallotBook$Tally" "left" "I" ∈ gw_ := gw_in (tk_1 _ (List.mem_of_getElem? (i := 148) (by decide +kernel))) rfl
theorem tw_283 : Cond.methodLink RX5 38 yJ7_fill_53178 ∈ gw_ := gw_in (tk_1 _ (List.mem_of_getElem? (i := 166) (by decide +kernel))) rfl
theorem tw_284 : Cond.static yJ7_fill_53178 ∈ gw_ := gw_in (tk_1 _ (List.mem_of_getElem? (i := 167) (by decide +kernel))) rfl
theorem tw_285 : Cond.code yJ7_fill_53178 cJ7_fill_53178 4 none ∈ gw_ := gw_in (tk_1 _ (List.mem_of_getElem? (i := 168) (by decide +kernel))) rfl
theorem tw_286 : Cond.fieldLink RX5 12 "BallotBook$Sheet" "tally" "LBallotBook$Tally;" ∈ gw_ := gw_in (tk_1 _ (List.mem_of_getElem? (i := 169) (by decide +kernel))) rfl
theorem tw_287 : Cond.fieldLink RX9 106 "BallotBook$Sheet" "tally" "LBallotBook$Tally;" ∈ gw_ := gw_in (tk_1 _ (List.mem_of_getElem? (i := 170) (by decide +kernel))) rfl
theorem tw_288 : Cond.fieldLink RX1 96 "BallotBook$Sheet" "tally" "LBallotBook$Tally;" ∈ gw_ := gw_in (tk_1 _ (List.mem_of_getElem? (i := 171) (by decide +kernel))) rfl
theorem tw_289 : Cond.fieldLink RX5 18 "BallotBook$Sheet" "had" "[I" ∈ gw_ := gw_in (tk_1 _ (List.mem_of_getElem? (i := 172) (by decide +kernel))) rfl
theorem tw_290 : Cond.fieldLink RX9 141 "BallotBook$Sheet" "had" "[I" ∈ gw_ := gw_in (tk_1 _ (List.mem_of_getElem? (i := 173) (by decide +kernel))) rfl
theorem tw_291 : Cond.fieldLink RX1 103 "BallotBook$Sheet" "had" "[I" ∈ gw_ := gw_in (tk_1 _ (List.mem_of_getElem? (i := 174) (by decide +kernel))) rfl
theorem tw_292 : Cond.fieldLink RX5 22 "BallotBook$Sheet" "where" "[I" ∈ gw_ := gw_in (tk_1 _ (List.mem_of_getElem? (i := 175) (by decide +kernel))) rfl
theorem tw_293 : Cond.fieldLink RX5 25 "BallotBook$Sheet" "stamp" "[I" ∈ gw_ := gw_in (tk_1 _ (List.mem_of_getElem? (i := 176) (by decide +kernel))) rfl
theorem tw_294 : Cond.fieldLink RX5 28 "BallotBook$Sheet" "trail" "[J" ∈ gw_ := gw_in (tk_1 _ (List.mem_of_getElem? (i := 177) (by decide +kernel))) rfl
theorem tw_295 : Cond.fieldLink RX5 32 "BallotBook$Sheet" "shifted" "[I" ∈ gw_ := gw_in (tk_1 _ (List.mem_of_getElem? (i := 178) (by decide +kernel))) rfl
theorem tw_296 : Cond.fieldLink RX9 188 "BallotBook$Sheet" "shifted" "[I" ∈ gw_ := gw_in (tk_1 _ (List.mem_of_getElem? (i := 179) (by decide +kernel))) rfl
theorem tw_297 : Cond.fieldLink RX5 35 "BallotBook$Sheet" "said" "[I" ∈ gw_ := gw_in (tk_1 _ (List.mem_of_getElem? (i := 180) (by decide +kernel))) rfl
theorem tw_298 : Cond.fieldLink RX9 194 "BallotBook$Sheet" "said" "[I" ∈ gw_ := gw_in (tk_1 _ (List.mem_of_getElem? (i := 181) (by decide +kernel))) rfl
theorem tw_299 : Cond.fieldLink RX5 50 "BallotBook$Sheet" "printed" "I" ∈ gw_ := gw_in (tk_1 _ (List.mem_of_getElem? (i := 182) (by decide +kernel))) rfl
theorem tw_300 : Cond.fieldLink RX1 95 "BallotBook$Sheet" "printed" "I" ∈ gw_ := gw_in (tk_1 _ (List.mem_of_getElem? (i := 183) (by decide +kernel))) rfl
theorem tw_301 : Cond.fieldLink RX9 322 "BallotBook$Sheet" "printed" "I" ∈ gw_ := gw_in (tk_1 _ (List.mem_of_getElem? (i := 184) (by decide +kernel))) rfl
theorem tw_302 : Cond.fieldLink RX5 54 "BallotBook$Sheet" "recounted" "I" ∈ gw_ := gw_in (tk_1 _ (List.mem_of_getElem? (i := 185) (by decide +kernel))) rfl
theorem tw_303 : Cond.fieldLink RX9 239 "BallotBook$Sheet" "recounted" "I" ∈ gw_ := gw_in (tk_1 _ (List.mem_of_getElem? (i := 186) (by decide +kernel))) rfl
theorem tw_304 : Cond.fieldLink RX5 57 "BallotBook$Sheet" "stamps" "I" ∈ gw_ := gw_in (tk_1 _ (List.mem_of_getElem? (i := 187) (by decide +kernel))) rfl
theorem tw_326 : Cond.classLink RX0 18 RX7 ∈ gw_ := gw_in (tk_1 _ (List.mem_of_getElem? (i := 209) (by decide +kernel))) rfl
theorem tn_327 : Cond.methodLinkNest RX0 20 yX7_init "BallotBook" ∈ lw_tbl := tk_1 _ (List.mem_of_getElem? (i := 210) (by decide +kernel))
theorem tw_328 : Cond.fieldLink RX0 12 "BallotBook$Account" "sheet" "LBallotBook$Sheet;" ∈ gw_ := gw_in (tk_1 _ (List.mem_of_getElem? (i := 211) (by decide +kernel))) rfl
theorem tw_329 : Cond.fieldLink RX9 95 "BallotBook$Account" "sheet" "LBallotBook$Sheet;" ∈ gw_ := gw_in (tk_1 _ (List.mem_of_getElem? (i := 212) (by decide +kernel))) rfl
theorem tw_330 : Cond.fieldLink RX0 21 "BallotBook$Account" "begin" "LBallotBook$Tally;" ∈ gw_ := gw_in (tk_1 _ (List.mem_of_getElem? (i := 213) (by decide +kernel))) rfl
theorem tw_331 : Cond.fieldLink RX9 103 "BallotBook$Account" "begin" "LBallotBook$Tally;" ∈ gw_ := gw_in (tk_1 _ (List.mem_of_getElem? (i := 214) (by decide +kernel))) rfl
theorem tw_332 : Cond.fieldLink RX0 25 "BallotBook$Account" "noteHours" "[I" ∈ gw_ := gw_in (tk_1 _ (List.mem_of_getElem? (i := 215) (by decide +kernel))) rfl
theorem tw_333 : Cond.fieldLink RX0 29 "BallotBook$Account" "noteStations" "[I" ∈ gw_ := gw_in (tk_1 _ (List.mem_of_getElem? (i := 216) (by decide +kernel))) rfl
theorem tw_334 : Cond.fieldLink RX0 32 "BallotBook$Account" "noteBoxes" "[I" ∈ gw_ := gw_in (tk_1 _ (List.mem_of_getElem? (i := 217) (by decide +kernel))) rfl
theorem tw_335 : Cond.fieldLink RX0 52 "BallotBook$Account" "noteCount" "I" ∈ gw_ := gw_in (tk_1 _ (List.mem_of_getElem? (i := 218) (by decide +kernel))) rfl
theorem tw_336 : Cond.fieldLink RX9 119 "BallotBook$Account" "noteCount" "I" ∈ gw_ := gw_in (tk_1 _ (List.mem_of_getElem? (i := 219) (by decide +kernel))) rfl
theorem tw_337 : Cond.fieldLink RX0 55 "BallotBook$Account" "drawn" "I" ∈ gw_ := gw_in (tk_1 _ (List.mem_of_getElem? (i := 220) (by decide +kernel))) rfl
theorem tw_338 : Cond.fieldLink RX9 316 "BallotBook$Account" "drawn" "I" ∈ gw_ := gw_in (tk_1 _ (List.mem_of_getElem? (i := 221) (by decide +kernel))) rfl
theorem tw_339 : Cond.fieldLink RX0 35 "BallotBook$Account" "inForce" "I" ∈ gw_ := gw_in (tk_1 _ (List.mem_of_getElem? (i := 222) (by decide +kernel))) rfl
theorem tw_340 : Cond.fieldLink RX9 134 "BallotBook$Account" "inForce" "I" ∈ gw_ := gw_in (tk_1 _ (List.mem_of_getElem? (i := 223) (by decide +kernel))) rfl
theorem tw_341 : Cond.fieldLink RX0 58 "BallotBook$Account" "held" "Z" ∈ gw_ := gw_in (tk_1 _ (List.mem_of_getElem? (i := 224) (by decide +kernel))) rfl
theorem tw_342 : Cond.fieldLink RX9 115 "BallotBook$Account" "held" "Z" ∈ gw_ := gw_in (tk_1 _ (List.mem_of_getElem? (i := 225) (by decide +kernel))) rfl
theorem tw_363 : Cond.classLink RX9 49 RX2 ∈ gw_ := gw_in (tk_2 _ (List.mem_of_getElem? (i := 6) (by decide +kernel))) rfl
theorem tw_364 : Cond.instantiable RX2 3 ∈ gw_ := gw_in (tk_2 _ (List.mem_of_getElem? (i := 7) (by decide +kernel))) rfl
theorem tn_365 : Cond.methodLinkNest RX9 51 yX2_init "BallotBook" ∈ lw_tbl := tk_2 _ (List.mem_of_getElem? (i := 8) (by decide +kernel))
theorem tw_366 : Cond.instanceMethod yX2_init ∈ gw_ := gw_in (tk_2 _ (List.mem_of_getElem? (i := 9) (by decide +kernel))) rfl
theorem tw_367 : Cond.code yX2_init cX2_init 1 none ∈ gw_ := gw_in (tk_2 _ (List.mem_of_getElem? (i := 10) (by decide +kernel))) rfl
theorem tw_368 : Cond.methodLink RX2 3 objectInit ∈ gw_ := gw_in (tk_2 _ (List.mem_of_getElem? (i := 11) (by decide +kernel))) rfl
theorem tw_369 : Cond.classLink RX2 9 RX5 ∈ gw_ := gw_in (tk_2 _ (List.mem_of_getElem? (i := 12) (by decide +kernel))) rfl
theorem tw_371 : Cond.fieldLink RX2 11 "BallotBook$History" "sheets" "[LBallotBook$Sheet;" ∈ gw_ := gw_in (tk_2 _ (List.mem_of_getElem? (i := 14) (by decide +kernel))) rfl
theorem tw_372 : Cond.fieldLink RX2 17 "BallotBook$History" "oldest" "I" ∈ gw_ := gw_in (tk_2 _ (List.mem_of_getElem? (i := 15) (by decide +kernel))) rfl
theorem tw_373 : Cond.fieldLink RX2 21 "BallotBook$History" "size" "I" ∈ gw_ := gw_in (tk_2 _ (List.mem_of_getElem? (i := 16) (by decide +kernel))) rfl
theorem tw_374 : Cond.fieldLink RX9 250 "BallotBook$History" "size" "I" ∈ gw_ := gw_in (tk_2 _ (List.mem_of_getElem? (i := 17) (by decide +kernel))) rfl
theorem tw_382 : Cond.classLink RX9 56 RX7 ∈ gw_ := gw_in (tk_2 _ (List.mem_of_getElem? (i := 25) (by decide +kernel))) rfl
theorem tn_383 : Cond.methodLinkNest RX9 58 yX7_init "BallotBook" ∈ lw_tbl := tk_2 _ (List.mem_of_getElem? (i := 26) (by decide +kernel))
theorem tw_384 : Cond.classLink RX9 63 RX6 ∈ gw_ := gw_in (tk_2 _ (List.mem_of_getElem? (i := 27) (by decide +kernel))) rfl
theorem tw_385 : Cond.instantiable RX6 10 ∈ gw_ := gw_in (tk_2 _ (List.mem_of_getElem? (i := 28) (by decide +kernel))) rfl
theorem tn_386 : Cond.methodLinkNest RX9 65 yX6_init "BallotBook" ∈ lw_tbl := tk_2 _ (List.mem_of_getElem? (i := 29) (by decide +kernel))
theorem tw_387 : Cond.instanceMethod yX6_init ∈ gw_ := gw_in (tk_2 _ (List.mem_of_getElem? (i := 30) (by decide +kernel))) rfl
theorem tw_388 : Cond.code yX6_init cX6_init 1 none ∈ gw_ := gw_in (tk_2 _ (List.mem_of_getElem? (i := 31) (by decide +kernel))) rfl
theorem tw_389 : Cond.methodLink RX6 3 objectInit ∈ gw_ := gw_in (tk_2 _ (List.mem_of_getElem? (i := 32) (by decide +kernel))) rfl
theorem tw_390 : Cond.fieldLink RX6 9 "BallotBook$SlipSearch" "gaps" "[I" ∈ gw_ := gw_in (tk_2 _ (List.mem_of_getElem? (i := 33) (by decide +kernel))) rfl
theorem tw_391 : Cond.fieldLink RX9 331 "BallotBook$SlipSearch" "gaps" "[I" ∈ gw_ := gw_in (tk_2 _ (List.mem_of_getElem? (i := 34) (by decide +kernel))) rfl
theorem tw_392 : Cond.fieldLink RX6 15 "BallotBook$SlipSearch" "bestTens" "[I" ∈ gw_ := gw_in (tk_2 _ (List.mem_of_getElem? (i := 35) (by decide +kernel))) rfl
theorem tw_393 : Cond.fieldLink RX9 271 "BallotBook$SlipSearch" "bestTens" "[I" ∈ gw_ := gw_in (tk_2 _ (List.mem_of_getElem? (i := 36) (by decide +kernel))) rfl
theorem tw_394 : Cond.fieldLink RX6 18 "BallotBook$SlipSearch" "tens" "[I" ∈ gw_ := gw_in (tk_2 _ (List.mem_of_getElem? (i := 37) (by decide +kernel))) rfl
theorem tw_395 : Cond.fieldLink RX6 27 "BallotBook$SlipSearch" "stations" "I" ∈ gw_ := gw_in (tk_2 _ (List.mem_of_getElem? (i := 38) (by decide +kernel))) rfl
theorem tw_396 : Cond.fieldLink RX6 31 "BallotBook$SlipSearch" "fixed" "I" ∈ gw_ := gw_in (tk_2 _ (List.mem_of_getElem? (i := 39) (by decide +kernel))) rfl
theorem tw_397 : Cond.fieldLink RX6 40 "BallotBook$SlipSearch" "reach" "I" ∈ gw_ := gw_in (tk_2 _ (List.mem_of_getElem? (i := 40) (by decide +kernel))) rfl
theorem tw_398 : Cond.fieldLink RX6 34 "BallotBook$SlipSearch" "limit" "I" ∈ gw_ := gw_in (tk_2 _ (List.mem_of_getElem? (i := 41) (by decide +kernel))) rfl
theorem tw_399 : Cond.fieldLink RX6 37 "BallotBook$SlipSearch" "fewest" "I" ∈ gw_ := gw_in (tk_2 _ (List.mem_of_getElem? (i := 42) (by decide +kernel))) rfl
theorem tw_400 : Cond.fieldLink RX9 262 "BallotBook$SlipSearch" "fewest" "I" ∈ gw_ := gw_in (tk_2 _ (List.mem_of_getElem? (i := 43) (by decide +kernel))) rfl
theorem tw_401 : Cond.fieldLink RX6 58 "BallotBook$SlipSearch" "fewestTens" "I" ∈ gw_ := gw_in (tk_2 _ (List.mem_of_getElem? (i := 44) (by decide +kernel))) rfl
theorem tw_402 : Cond.fieldLink RX9 265 "BallotBook$SlipSearch" "fewestTens" "I" ∈ gw_ := gw_in (tk_2 _ (List.mem_of_getElem? (i := 45) (by decide +kernel))) rfl
theorem tw_403 : Cond.fieldLink RX6 61 "BallotBook$SlipSearch" "shiftSlips" "I" ∈ gw_ := gw_in (tk_2 _ (List.mem_of_getElem? (i := 46) (by decide +kernel))) rfl
theorem tw_404 : Cond.fieldLink RX9 268 "BallotBook$SlipSearch" "shiftSlips" "I" ∈ gw_ := gw_in (tk_2 _ (List.mem_of_getElem? (i := 47) (by decide +kernel))) rfl
theorem tw_426 : Cond.fieldLink RX9 10 "BallotBook" "tape" "LBallotBook$Tape;" ∈ gw_ := gw_in (tk_2 _ (List.mem_of_getElem? (i := 69) (by decide +kernel))) rfl
theorem tw_427 : Cond.fieldLink RX9 21 "BallotBook" "electionReader" "LBallotBook$ElectionReader;" ∈ gw_ := gw_in (tk_2 _ (List.mem_of_getElem? (i := 70) (by decide +kernel))) rfl
theorem tw_428 : Cond.fieldLink RX9 28 "BallotBook" "ruleReader" "LBallotBook$RuleReader;" ∈ gw_ := gw_in (tk_2 _ (List.mem_of_getElem? (i := 71) (by decide +kernel))) rfl
theorem tw_429 : Cond.fieldLink RX9 34 "BallotBook" "rules" "[LBallotBook$Rule;" ∈ gw_ := gw_in (tk_2 _ (List.mem_of_getElem? (i := 72) (by decide +kernel))) rfl
theorem tw_430 : Cond.fieldLink RX9 128 "BallotBook" "ruleCount" "I" ∈ gw_ := gw_in (tk_2 _ (List.mem_of_getElem? (i := 73) (by decide +kernel))) rfl
theorem tw_431 : Cond.fieldLink RX9 41 "BallotBook" "now" "LBallotBook$Account;" ∈ gw_ := gw_in (tk_2 _ (List.mem_of_getElem? (i := 74) (by decide +kernel))) rfl
theorem tw_432 : Cond.fieldLink RX9 45 "BallotBook" "images" "[LBallotBook$Account;" ∈ gw_ := gw_in (tk_2 _ (List.mem_of_getElem? (i := 75) (by decide +kernel))) rfl
theorem tw_433 : Cond.fieldLink RX9 52 "BallotBook" "history" "LBallotBook$History;" ∈ gw_ := gw_in (tk_2 _ (List.mem_of_getElem? (i := 76) (by decide +kernel))) rfl
theorem tw_434 : Cond.fieldLink RX9 59 "BallotBook" "trial" "LBallotBook$Tally;" ∈ gw_ := gw_in (tk_2 _ (List.mem_of_getElem? (i := 77) (by decide +kernel))) rfl
theorem tw_435 : Cond.fieldLink RX9 66 "BallotBook" "search" "LBallotBook$SlipSearch;" ∈ gw_ := gw_in (tk_2 _ (List.mem_of_getElem? (i := 78) (by decide +kernel))) rfl
theorem tw_436 : Cond.fieldLink RX9 70 "BallotBook" "oneGains" "[I" ∈ gw_ := gw_in (tk_2 _ (List.mem_of_getElem? (i := 79) (by decide +kernel))) rfl
theorem tw_437 : Cond.fieldLink RX9 74 "BallotBook" "otherGains" "[I" ∈ gw_ := gw_in (tk_2 _ (List.mem_of_getElem? (i := 80) (by decide +kernel))) rfl
theorem tw_438 : Cond.fieldLink RX9 77 "BallotBook" "boxesBehind" "[I" ∈ gw_ := gw_in (tk_2 _ (List.mem_of_getElem? (i := 81) (by decide +kernel))) rfl
theorem tw_469 : Cond.code yX9_feed cX9_feed 6 (some .int) ∈ gw_ := gw_in (tk_2 _ (List.mem_of_getElem? (i := 112) (by decide +kernel))) rfl
theorem tw_470 : Cond.methodLink RX9 84 yX8_addBytes ∈ gw_ := gw_in (tk_2 _ (List.mem_of_getElem? (i := 113) (by decide +kernel))) rfl
theorem tw_471 : Cond.instanceMethod yX8_addBytes ∈ gw_ := gw_in (tk_2 _ (List.mem_of_getElem? (i := 114) (by decide +kernel))) rfl
theorem tw_472 : Cond.selects RX8 yX8_addBytes yX8_addBytes ∈ gw_ := gw_in (tk_2 _ (List.mem_of_getElem? (i := 115) (by decide +kernel))) rfl
theorem tw_473 : Cond.code yX8_addBytes cX8_addBytes 3 none ∈ gw_ := gw_in (tk_2 _ (List.mem_of_getElem? (i := 116) (by decide +kernel))) rfl
theorem tw_477 : Cond.code yX9_end cX9_end 2 (some .int) ∈ gw_ := gw_in (tk_2 _ (List.mem_of_getElem? (i := 120) (by decide +kernel))) rfl
theorem tw_481 : Cond.code yX9_election cX9_election 2 (some .int) ∈ gw_ := gw_in (tk_2 _ (List.mem_of_getElem? (i := 124) (by decide +kernel))) rfl
theorem tw_482 : Cond.methodLink RX9 88 yX1_readAll ∈ gw_ := gw_in (tk_2 _ (List.mem_of_getElem? (i := 125) (by decide +kernel))) rfl
theorem tw_483 : Cond.instanceMethod yX1_readAll ∈ gw_ := gw_in (tk_2 _ (List.mem_of_getElem? (i := 126) (by decide +kernel))) rfl
theorem tw_484 : Cond.selects RX1 yX1_readAll yX1_readAll ∈ gw_ := gw_in (tk_2 _ (List.mem_of_getElem? (i := 127) (by decide +kernel))) rfl
theorem tw_485 : Cond.code yX1_readAll cX1_readAll 2 (some .boolean) ∈ gw_ := gw_in (tk_2 _ (List.mem_of_getElem? (i := 128) (by decide +kernel))) rfl
theorem tw_486 : Cond.methodLink RX1 23 yX8_rewind ∈ gw_ := gw_in (tk_2 _ (List.mem_of_getElem? (i := 129) (by decide +kernel))) rfl
theorem tw_487 : Cond.instanceMethod yX8_rewind ∈ gw_ := gw_in (tk_2 _ (List.mem_of_getElem? (i := 130) (by decide +kernel))) rfl
theorem tw_488 : Cond.selects RX8 yX8_rewind yX8_rewind ∈ gw_ := gw_in (tk_2 _ (List.mem_of_getElem? (i := 131) (by decide +kernel))) rfl
theorem tw_489 : Cond.code yX8_rewind cX8_rewind 1 none ∈ gw_ := gw_in (tk_2 _ (List.mem_of_getElem? (i := 132) (by decide +kernel))) rfl
theorem tw_490 : Cond.methodLink RX1 28 yJ7_fill_53178 ∈ gw_ := gw_in (tk_2 _ (List.mem_of_getElem? (i := 133) (by decide +kernel))) rfl
theorem tw_491 : Cond.methodLink RX1 45 yX1_readClause ∈ gw_ := gw_in (tk_2 _ (List.mem_of_getElem? (i := 134) (by decide +kernel))) rfl
theorem tw_493 : Cond.instanceMethod yX1_readClause ∈ gw_ := gw_in (tk_2 _ (List.mem_of_getElem? (i := 136) (by decide +kernel))) rfl
theorem tw_494 : Cond.code yX1_readClause cX1_readClause 4 (some .boolean) ∈ gw_ := gw_in (tk_2 _ (List.mem_of_getElem? (i := 137) (by decide +kernel))) rfl
theorem tw_495 : Cond.methodLink RX1 49 yX8_upcoming ∈ gw_ := gw_in (tk_2 _ (List.mem_of_getElem? (i := 138) (by decide +kernel))) rfl
theorem tw_496 : Cond.instanceMethod yX8_upcoming ∈ gw_ := gw_in (tk_2 _ (List.mem_of_getElem? (i := 139) (by decide +kernel))) rfl
theorem tw_497 : Cond.selects RX8 yX8_upcoming yX8_upcoming ∈ gw_ := gw_in (tk_2 _ (List.mem_of_getElem? (i := 140) (by decide +kernel))) rfl
theorem tw_498 : Cond.code yX8_upcoming cX8_upcoming 1 (some .int) ∈ gw_ := gw_in (tk_2 _ (List.mem_of_getElem? (i := 141) (by decide +kernel))) rfl
theorem tw_500 : Cond.methodLink RX1 66 yX8_takeWord ∈ gw_ := gw_in (tk_2 _ (List.mem_of_getElem? (i := 143) (by decide +kernel))) rfl
theorem tw_501 : Cond.instanceMethod yX8_takeWord ∈ gw_ := gw_in (tk_2 _ (List.mem_of_getElem? (i := 144) (by decide +kernel))) rfl
theorem tw_502 : Cond.selects RX8 yX8_takeWord yX8_takeWord ∈ gw_ := gw_in (tk_2 _ (List.mem_of_getElem? (i := 145) (by decide +kernel))) rfl
theorem tw_503 : Cond.code yX8_takeWord cX8_takeWord 6 (some .int) ∈ gw_ := gw_in (tk_2 _ (List.mem_of_getElem? (i := 146) (by decide +kernel))) rfl
theorem tw_504 : Cond.methodLink RX8 25 yX8_upcoming ∈ gw_ := gw_in (tk_2 _ (List.mem_of_getElem? (i := 147) (by decide +kernel))) rfl
theorem tw_505 : Cond.methodLink RX8 29 yJ0_length_8abf5 ∈ gw_ := gw_in (tk_2 _ (List.mem_of_getElem? (i := 148) (by decide +kernel))) rfl
theorem tw_506 : Cond.instanceMethod yJ0_length_8abf5 ∈ gw_ := gw_in (tk_2 _ (List.mem_of_getElem? (i := 149) (by decide +kernel))) rfl
theorem tw_507 : Cond.selects RJ0 yJ0_length_8abf5 yJ0_length_8abf5 ∈ gw_ := gw_in (tk_2 _ (List.mem_of_getElem? (i := 150) (by decide +kernel))) rfl
theorem tw_508 : Cond.code yJ0_length_8abf5 cJ0_length_8abf5 1 (some .int) ∈ gw_ := gw_in (tk_2 _ (List.mem_of_getElem? (i := 151) (by decide +kernel))) rfl
theorem tw_509 : Cond.methodLink RJ0 335 yJ0_coder_7d493 ∈ gw_ := gw_in (tk_2 _ (List.mem_of_getElem? (i := 152) (by decide +kernel))) rfl
theorem tw_510 : Cond.instanceMethod yJ0_coder_7d493 ∈ gw_ := gw_in (tk_2 _ (List.mem_of_getElem? (i := 153) (by decide +kernel))) rfl
theorem tw_511 : Cond.selects RJ0 yJ0_coder_7d493 yJ0_coder_7d493 ∈ gw_ := gw_in (tk_2 _ (List.mem_of_getElem? (i := 154) (by decide +kernel))) rfl
theorem tw_512 : Cond.code yJ0_coder_7d493 cJ0_coder_7d493 1 (some .byte) ∈ gw_ := gw_in (tk_2 _ (List.mem_of_getElem? (i := 155) (by decide +kernel))) rfl
theorem tw_513 : Cond.fieldLink RJ0 38 "java/lang/String" "COMPACT_STRINGS" "Z" ∈ gw_ := gw_in (tk_2 _ (List.mem_of_getElem? (i := 156) (by decide +kernel))) rfl
theorem tw_515 : Cond.methodLink RX8 33 yJ0_charAt_5068e ∈ gw_ := gw_in (tk_2 _ (List.mem_of_getElem? (i := 158) (by decide +kernel))) rfl
theorem tw_516 : Cond.instanceMethod yJ0_charAt_5068e ∈ gw_ := gw_in (tk_2 _ (List.mem_of_getElem? (i := 159) (by decide +kernel))) rfl
theorem tw_517 : Cond.selects RJ0 yJ0_charAt_5068e yJ0_charAt_5068e ∈ gw_ := gw_in (tk_2 _ (List.mem_of_getElem? (i := 160) (by decide +kernel))) rfl
theorem tw_518 : Cond.code yJ0_charAt_5068e cJ0_charAt_5068e 2 (some .char) ∈ gw_ := gw_in (tk_2 _ (List.mem_of_getElem? (i := 161) (by decide +kernel))) rfl
theorem tw_519 : Cond.methodLink RJ0 492 yJ0_isLatin1_aae02 ∈ gw_ := gw_in (tk_2 _ (List.mem_of_getElem? (i := 162) (by decide +kernel))) rfl
theorem tw_520 : Cond.instanceMethod yJ0_isLatin1_aae02 ∈ gw_ := gw_in (tk_2 _ (List.mem_of_getElem? (i := 163) (by decide +kernel))) rfl
theorem tw_521 : Cond.selects RJ0 yJ0_isLatin1_aae02 yJ0_isLatin1_aae02 ∈ gw_ := gw_in (tk_2 _ (List.mem_of_getElem? (i := 164) (by decide +kernel))) rfl
theorem tw_522 : Cond.code yJ0_isLatin1_aae02 cJ0_isLatin1_aae02 1 (some .boolean) ∈ gw_ := gw_in (tk_2 _ (List.mem_of_getElem? (i := 165) (by decide +kernel))) rfl
theorem tw_523 : Cond.methodLink RJ0 495 yJ1_charAt_3b067 ∈ gw_ := gw_in (tk_2 _ (List.mem_of_getElem? (i := 166) (by decide +kernel))) rfl
theorem tw_524 : Cond.static yJ1_charAt_3b067 ∈ gw_ := gw_in (tk_2 _ (List.mem_of_getElem? (i := 167) (by decide +kernel))) rfl
theorem tw_525 : Cond.code yJ1_charAt_3b067 cJ1_charAt_3b067 2 (some .char) ∈ gw_ := gw_in (tk_2 _ (List.mem_of_getElem? (i := 168) (by decide +kernel))) rfl
theorem tw_526 : Cond.methodLink RJ1 9 yJ0_checkIndex_df160 ∈ gw_ := gw_in (tk_2 _ (List.mem_of_getElem? (i := 169) (by decide +kernel))) rfl
theorem tw_527 : Cond.static yJ0_checkIndex_df160 ∈ gw_ := gw_in (tk_2 _ (List.mem_of_getElem? (i := 170) (by decide +kernel))) rfl
theorem tw_528 : Cond.code yJ0_checkIndex_df160 cJ0_checkIndex_df160 2 none ∈ gw_ := gw_in (tk_2 _ (List.mem_of_getElem? (i := 171) (by decide +kernel))) rfl
theorem tw_529 : Cond.fieldLink RJ0 1053 "jdk/internal/util/Preconditions" "SIOOBE_FORMATTER" "Ljava/util/function/BiFunction;" ∈ gw_ := gw_in (tk_2 _ (List.mem_of_getElem? (i := 172) (by decide +kernel))) rfl
theorem tw_531 : Cond.methodLink RJ0 1059 yJ3_checkIndex_8e157 ∈ gw_ := gw_in (tk_2 _ (List.mem_of_getElem? (i := 174) (by decide +kernel))) rfl
theorem tw_532 : Cond.static yJ3_checkIndex_8e157 ∈ gw_ := gw_in (tk_2 _ (List.mem_of_getElem? (i := 175) (by decide +kernel))) rfl
theorem tw_533 : Cond.code yJ3_checkIndex_8e157 cJ3_checkIndex_8e157 3 (some .int) ∈ gw_ := gw_in (tk_2 _ (List.mem_of_getElem? (i := 176) (by decide +kernel))) rfl
theorem tw_553 : Cond.methodLink RX8 37 yX8_isWord ∈ gw_ := gw_in (tk_2 _ (List.mem_of_getElem? (i := 196) (by decide +kernel))) rfl
theorem tw_555 : Cond.instanceMethod yX8_isWord ∈ gw_ := gw_in (tk_2 _ (List.mem_of_getElem? (i := 198) (by decide +kernel))) rfl
theorem tw_556 : Cond.code yX8_isWord cX8_isWord 6 (some .boolean) ∈ gw_ := gw_in (tk_2 _ (List.mem_of_getElem? (i := 199) (by decide +kernel))) rfl
theorem tw_557 : Cond.methodLink RX1 60 yX8_blame ∈ gw_ := gw_in (tk_2 _ (List.mem_of_getElem? (i := 200) (by decide +kernel))) rfl
theorem tw_558 : Cond.instanceMethod yX8_blame ∈ gw_ := gw_in (tk_2 _ (List.mem_of_getElem? (i := 201) (by decide +kernel))) rfl
theorem tw_559 : Cond.selects RX8 yX8_blame yX8_blame ∈ gw_ := gw_in (tk_2 _ (List.mem_of_getElem? (i := 202) (by decide +kernel))) rfl
theorem tw_560 : Cond.code yX8_blame cX8_blame 3 (some .boolean) ∈ gw_ := gw_in (tk_2 _ (List.mem_of_getElem? (i := 203) (by decide +kernel))) rfl
theorem tw_561 : Cond.methodLink RX1 70 yX8_takeNumber ∈ gw_ := gw_in (tk_2 _ (List.mem_of_getElem? (i := 204) (by decide +kernel))) rfl
theorem tw_562 : Cond.instanceMethod yX8_takeNumber ∈ gw_ := gw_in (tk_2 _ (List.mem_of_getElem? (i := 205) (by decide +kernel))) rfl
theorem tw_563 : Cond.selects RX8 yX8_takeNumber yX8_takeNumber ∈ gw_ := gw_in (tk_2 _ (List.mem_of_getElem? (i := 206) (by decide +kernel))) rfl
theorem tw_564 : Cond.code yX8_takeNumber cX8_takeNumber 5 (some .int) ∈ gw_ := gw_in (tk_2 _ (List.mem_of_getElem? (i := 207) (by decide +kernel))) rfl
theorem tw_565 : Cond.methodLink RX8 44 yX8_isDigit ∈ gw_ := gw_in (tk_2 _ (List.mem_of_getElem? (i := 208) (by decide +kernel))) rfl
theorem tw_566 : Cond.static yX8_isDigit ∈ gw_ := gw_in (tk_2 _ (List.mem_of_getElem? (i := 209) (by decide +kernel))) rfl
theorem tw_567 : Cond.code yX8_isDigit cX8_isDigit 1 (some .boolean) ∈ gw_ := gw_in (tk_2 _ (List.mem_of_getElem? (i := 210) (by decide +kernel))) rfl
theorem tw_568 : Cond.methodLink RX8 48 yX8_blame ∈ gw_ := gw_in (tk_2 _ (List.mem_of_getElem? (i := 211) (by decide +kernel))) rfl
theorem tw_569 : Cond.methodLink RX1 77 yX1_readStation ∈ gw_ := gw_in (tk_2 _ (List.mem_of_getElem? (i := 212) (by decide +kernel))) rfl
theorem tw_571 : Cond.instanceMethod yX1_readStation ∈ gw_ := gw_in (tk_2 _ (List.mem_of_getElem? (i := 214) (by decide +kernel))) rfl
theorem tw_572 : Cond.code yX1_readStation cX1_readStation 5 (some .boolean) ∈ gw_ := gw_in (tk_2 _ (List.mem_of_getElem? (i := 215) (by decide +kernel))) rfl
theorem tw_573 : Cond.methodLink RX1 81 yX1_readVoters ∈ gw_ := gw_in (tk_2 _ (List.mem_of_getElem? (i := 216) (by decide +kernel))) rfl
theorem tw_575 : Cond.instanceMethod yX1_readVoters ∈ gw_ := gw_in (tk_2 _ (List.mem_of_getElem? (i := 218) (by decide +kernel))) rfl
theorem tw_576 : Cond.code yX1_readVoters cX1_readVoters 3 (some .boolean) ∈ gw_ := gw_in (tk_2 _ (List.mem_of_getElem? (i := 219) (by decide +kernel))) rfl
theorem tw_577 : Cond.methodLink RX1 84 yX1_readSpoiled ∈ gw_ := gw_in (tk_2 _ (List.mem_of_getElem? (i := 220) (by decide +kernel))) rfl
theorem tw_579 : Cond.instanceMethod yX1_readSpoiled ∈ gw_ := gw_in (tk_2 _ (List.mem_of_getElem? (i := 222) (by decide +kernel))) rfl
theorem tw_580 : Cond.code yX1_readSpoiled cX1_readSpoiled 2 (some .boolean) ∈ gw_ := gw_in (tk_2 _ (List.mem_of_getElem? (i := 223) (by decide +kernel))) rfl
theorem tw_581 : Cond.methodLink RX1 53 yX8_takeSign ∈ gw_ := gw_in (tk_2 _ (List.mem_of_getElem? (i := 224) (by decide +kernel))) rfl
theorem tw_582 : Cond.instanceMethod yX8_takeSign ∈ gw_ := gw_in (tk_2 _ (List.mem_of_getElem? (i := 225) (by decide +kernel))) rfl
theorem tw_583 : Cond.selects RX8 yX8_takeSign yX8_takeSign ∈ gw_ := gw_in (tk_2 _ (List.mem_of_getElem? (i := 226) (by decide +kernel))) rfl
theorem tw_584 : Cond.code yX8_takeSign cX8_takeSign 2 (some .boolean) ∈ gw_ := gw_in (tk_2 _ (List.mem_of_getElem? (i := 227) (by decide +kernel))) rfl
theorem tw_585 : Cond.methodLink RX9 99 yX1_fill ∈ gw_ := gw_in (tk_2 _ (List.mem_of_getElem? (i := 228) (by decide +kernel))) rfl
theorem tw_586 : Cond.instanceMethod yX1_fill ∈ gw_ := gw_in (tk_2 _ (List.mem_of_getElem? (i := 229) (by decide +kernel))) rfl
theorem tw_587 : Cond.selects RX1 yX1_fill yX1_fill ∈ gw_ := gw_in (tk_2 _ (List.mem_of_getElem? (i := 230) (by decide +kernel))) rfl
theorem tw_588 : Cond.code yX1_fill cX1_fill 4 none ∈ gw_ := gw_in (tk_2 _ (List.mem_of_getElem? (i := 231) (by decide +kernel))) rfl
theorem tw_589 : Cond.methodLink RX1 90 yX5_clear ∈ gw_ := gw_in (tk_2 _ (List.mem_of_getElem? (i := 232) (by decide +kernel))) rfl
theorem tw_590 : Cond.instanceMethod yX5_clear ∈ gw_ := gw_in (tk_2 _ (List.mem_of_getElem? (i := 233) (by decide +kernel))) rfl
theorem tw_591 : Cond.selects RX5 yX5_clear yX5_clear ∈ gw_ := gw_in (tk_2 _ (List.mem_of_getElem? (i := 234) (by decide +kernel))) rfl
theorem tw_592 : Cond.code yX5_clear cX5_clear 1 none ∈ gw_ := gw_in (tk_2 _ (List.mem_of_getElem? (i := 235) (by decide +kernel))) rfl
theorem tw_593 : Cond.methodLink RX5 44 yX7_clear ∈ gw_ := gw_in (tk_2 _ (List.mem_of_getElem? (i := 236) (by decide +kernel))) rfl
theorem tw_594 : Cond.instanceMethod yX7_clear ∈ gw_ := gw_in (tk_2 _ (List.mem_of_getElem? (i := 237) (by decide +kernel))) rfl
theorem tw_595 : Cond.selects RX7 yX7_clear yX7_clear ∈ gw_ := gw_in (tk_2 _ (List.mem_of_getElem? (i := 238) (by decide +kernel))) rfl
theorem tw_596 : Cond.code yX7_clear cX7_clear 1 none ∈ gw_ := gw_in (tk_2 _ (List.mem_of_getElem? (i := 239) (by decide +kernel))) rfl
theorem tw_597 : Cond.methodLink RX7 25 yJ7_fill_d0a16 ∈ gw_ := gw_in (tk_3 _ (List.mem_of_getElem? (i := 0) (by decide +kernel))) rfl
theorem tw_598 : Cond.static yJ7_fill_d0a16 ∈ gw_ := gw_in (tk_3 _ (List.mem_of_getElem? (i := 1) (by decide +kernel))) rfl
theorem tw_599 : Cond.code yJ7_fill_d0a16 cJ7_fill_d0a16 5 none ∈ gw_ := gw_in (tk_3 _ (List.mem_of_getElem? (i := 2) (by decide +kernel))) rfl
theorem tw_600 : Cond.methodLink RX7 31 yJ7_fill_53178 ∈ gw_ := gw_in (tk_3 _ (List.mem_of_getElem? (i := 3) (by decide +kernel))) rfl
theorem tw_601 : Cond.methodLink RX5 47 yJ7_fill_d0a16 ∈ gw_ := gw_in (tk_3 _ (List.mem_of_getElem? (i := 4) (by decide +kernel))) rfl
theorem tw_602 : Cond.methodLink RX1 106 yJ13_bitCount_95d88 ∈ gw_ := gw_in (tk_3 _ (List.mem_of_getElem? (i := 5) (by decide +kernel))) rfl
theorem tw_603 : Cond.static yJ13_bitCount_95d88 ∈ gw_ := gw_in (tk_3 _ (List.mem_of_getElem? (i := 6) (by decide +kernel))) rfl
theorem tw_604 : Cond.code yJ13_bitCount_95d88 cJ13_bitCount_95d88 2 (some .int) ∈ gw_ := gw_in (tk_3 _ (List.mem_of_getElem? (i := 7) (by decide +kernel))) rfl
theorem tw_605 : Cond.constantLong RJ13 314 (6148914691236517205) ∈ gw_ := gw_in (tk_3 _ (List.mem_of_getElem? (i := 8) (by decide +kernel))) rfl
theorem tw_606 : Cond.constantLong RJ13 316 (3689348814741910323) ∈ gw_ := gw_in (tk_3 _ (List.mem_of_getElem? (i := 9) (by decide +kernel))) rfl
theorem tw_607 : Cond.constantLong RJ13 318 (1085102592571150095) ∈ gw_ := gw_in (tk_3 _ (List.mem_of_getElem? (i := 10) (by decide +kernel))) rfl
theorem tw_608 : Cond.methodLink RX1 115 yX5_put ∈ gw_ := gw_in (tk_3 _ (List.mem_of_getElem? (i := 11) (by decide +kernel))) rfl
theorem tw_609 : Cond.instanceMethod yX5_put ∈ gw_ := gw_in (tk_3 _ (List.mem_of_getElem? (i := 12) (by decide +kernel))) rfl
theorem tw_610 : Cond.selects RX5 yX5_put yX5_put ∈ gw_ := gw_in (tk_3 _ (List.mem_of_getElem? (i := 13) (by decide +kernel))) rfl
theorem tw_611 : Cond.code yX5_put cX5_put 4 none ∈ gw_ := gw_in (tk_3 _ (List.mem_of_getElem? (i := 14) (by decide +kernel))) rfl
theorem tw_612 : Cond.methodLink RX5 77 yX5_stationOf ∈ gw_ := gw_in (tk_3 _ (List.mem_of_getElem? (i := 15) (by decide +kernel))) rfl
theorem tw_613 : Cond.instanceMethod yX5_stationOf ∈ gw_ := gw_in (tk_3 _ (List.mem_of_getElem? (i := 16) (by decide +kernel))) rfl
theorem tw_614 : Cond.selects RX5 yX5_stationOf yX5_stationOf ∈ gw_ := gw_in (tk_3 _ (List.mem_of_getElem? (i := 17) (by decide +kernel))) rfl
theorem tw_615 : Cond.code yX5_stationOf cX5_stationOf 2 (some .int) ∈ gw_ := gw_in (tk_3 _ (List.mem_of_getElem? (i := 18) (by decide +kernel))) rfl
theorem tw_616 : Cond.methodLink RX5 70 yX5_kindOf ∈ gw_ := gw_in (tk_3 _ (List.mem_of_getElem? (i := 19) (by decide +kernel))) rfl
theorem tw_617 : Cond.instanceMethod yX5_kindOf ∈ gw_ := gw_in (tk_3 _ (List.mem_of_getElem? (i := 20) (by decide +kernel))) rfl
theorem tw_618 : Cond.selects RX5 yX5_kindOf yX5_kindOf ∈ gw_ := gw_in (tk_3 _ (List.mem_of_getElem? (i := 21) (by decide +kernel))) rfl
theorem tw_619 : Cond.code yX5_kindOf cX5_kindOf 2 (some .int) ∈ gw_ := gw_in (tk_3 _ (List.mem_of_getElem? (i := 22) (by decide +kernel))) rfl
theorem tw_620 : Cond.methodLink RX5 89 yX5_addToTally ∈ gw_ := gw_in (tk_3 _ (List.mem_of_getElem? (i := 23) (by decide +kernel))) rfl
theorem tw_622 : Cond.instanceMethod yX5_addToTally ∈ gw_ := gw_in (tk_3 _ (List.mem_of_getElem? (i := 25) (by decide +kernel))) rfl
theorem tw_623 : Cond.code yX5_addToTally cX5_addToTally 5 none ∈ gw_ := gw_in (tk_3 _ (List.mem_of_getElem? (i := 26) (by decide +kernel))) rfl
theorem tw_624 : Cond.methodLink RX5 93 yX5_mark ∈ gw_ := gw_in (tk_3 _ (List.mem_of_getElem? (i := 27) (by decide +kernel))) rfl
theorem tw_626 : Cond.instanceMethod yX5_mark ∈ gw_ := gw_in (tk_3 _ (List.mem_of_getElem? (i := 29) (by decide +kernel))) rfl
theorem tw_627 : Cond.code yX5_mark cX5_mark 4 none ∈ gw_ := gw_in (tk_3 _ (List.mem_of_getElem? (i := 30) (by decide +kernel))) rfl
theorem tw_628 : Cond.methodLink RX9 111 yX7_copyFrom ∈ gw_ := gw_in (tk_3 _ (List.mem_of_getElem? (i := 31) (by decide +kernel))) rfl
theorem tw_629 : Cond.instanceMethod yX7_copyFrom ∈ gw_ := gw_in (tk_3 _ (List.mem_of_getElem? (i := 32) (by decide +kernel))) rfl
theorem tw_630 : Cond.selects RX7 yX7_copyFrom yX7_copyFrom ∈ gw_ := gw_in (tk_3 _ (List.mem_of_getElem? (i := 33) (by decide +kernel))) rfl
theorem tw_631 : Cond.code yX7_copyFrom cX7_copyFrom 3 none ∈ gw_ := gw_in (tk_3 _ (List.mem_of_getElem? (i := 34) (by decide +kernel))) rfl
theorem tw_632 : Cond.methodLink RX9 122 yX2_forget ∈ gw_ := gw_in (tk_3 _ (List.mem_of_getElem? (i := 35) (by decide +kernel))) rfl
theorem tw_633 : Cond.instanceMethod yX2_forget ∈ gw_ := gw_in (tk_3 _ (List.mem_of_getElem? (i := 36) (by decide +kernel))) rfl
theorem tw_634 : Cond.selects RX2 yX2_forget yX2_forget ∈ gw_ := gw_in (tk_3 _ (List.mem_of_getElem? (i := 37) (by decide +kernel))) rfl
theorem tw_635 : Cond.code yX2_forget cX2_forget 1 none ∈ gw_ := gw_in (tk_3 _ (List.mem_of_getElem? (i := 38) (by decide +kernel))) rfl
theorem tw_636 : Cond.arrayClass .byte ∈ gw_ := gw_in (tk_3 _ (List.mem_of_getElem? (i := 39) (by decide +kernel))) rfl
theorem tw_640 : Cond.code yX9_rule cX9_rule 2 (some .int) ∈ gw_ := gw_in (tk_3 _ (List.mem_of_getElem? (i := 43) (by decide +kernel))) rfl
theorem tw_641 : Cond.methodLink RX9 131 yX4_readAll ∈ gw_ := gw_in (tk_3 _ (List.mem_of_getElem? (i := 44) (by decide +kernel))) rfl
theorem tw_642 : Cond.instanceMethod yX4_readAll ∈ gw_ := gw_in (tk_3 _ (List.mem_of_getElem? (i := 45) (by decide +kernel))) rfl
theorem tw_643 : Cond.selects RX4 yX4_readAll yX4_readAll ∈ gw_ := gw_in (tk_3 _ (List.mem_of_getElem? (i := 46) (by decide +kernel))) rfl
theorem tw_644 : Cond.code yX4_readAll cX4_readAll 4 (some (.object "BallotBook$Rule")) ∈ gw_ := gw_in (tk_3 _ (List.mem_of_getElem? (i := 47) (by decide +kernel))) rfl
theorem tw_645 : Cond.methodLink RX4 19 yX8_rewind ∈ gw_ := gw_in (tk_3 _ (List.mem_of_getElem? (i := 48) (by decide +kernel))) rfl
theorem tw_646 : Cond.methodLink RX4 31 yX8_upcoming ∈ gw_ := gw_in (tk_3 _ (List.mem_of_getElem? (i := 49) (by decide +kernel))) rfl
theorem tw_648 : Cond.methodLink RX4 40 yX8_takeWord ∈ gw_ := gw_in (tk_3 _ (List.mem_of_getElem? (i := 51) (by decide +kernel))) rfl
theorem tw_649 : Cond.methodLink RX4 44 yX8_blame ∈ gw_ := gw_in (tk_3 _ (List.mem_of_getElem? (i := 52) (by decide +kernel))) rfl
theorem tw_650 : Cond.methodLink RX4 48 yX4_readSum ∈ gw_ := gw_in (tk_3 _ (List.mem_of_getElem? (i := 53) (by decide +kernel))) rfl
theorem tw_652 : Cond.instanceMethod yX4_readSum ∈ gw_ := gw_in (tk_3 _ (List.mem_of_getElem? (i := 55) (by decide +kernel))) rfl
theorem tw_653 : Cond.code yX4_readSum cX4_readSum 5 (some .boolean) ∈ gw_ := gw_in (tk_3 _ (List.mem_of_getElem? (i := 56) (by decide +kernel))) rfl
theorem tw_654 : Cond.methodLink RX4 102 yX4_readValue ∈ gw_ := gw_in (tk_3 _ (List.mem_of_getElem? (i := 57) (by decide +kernel))) rfl
theorem tw_656 : Cond.instanceMethod yX4_readValue ∈ gw_ := gw_in (tk_3 _ (List.mem_of_getElem? (i := 59) (by decide +kernel))) rfl
theorem tw_657 : Cond.code yX4_readValue cX4_readValue 4 (some .boolean) ∈ gw_ := gw_in (tk_3 _ (List.mem_of_getElem? (i := 60) (by decide +kernel))) rfl
theorem tw_658 : Cond.methodLink RX4 108 yX8_isDigit ∈ gw_ := gw_in (tk_3 _ (List.mem_of_getElem? (i := 61) (by decide +kernel))) rfl
theorem tw_659 : Cond.constant RX4 111 (99999) ∈ gw_ := gw_in (tk_3 _ (List.mem_of_getElem? (i := 62) (by decide +kernel))) rfl
theorem tw_660 : Cond.methodLink RX4 112 yX8_takeNumber ∈ gw_ := gw_in (tk_3 _ (List.mem_of_getElem? (i := 63) (by decide +kernel))) rfl
theorem tw_661 : Cond.methodLink RX4 58 yX4_addCode ∈ gw_ := gw_in (tk_3 _ (List.mem_of_getElem? (i := 64) (by decide +kernel))) rfl
theorem tw_663 : Cond.instanceMethod yX4_addCode ∈ gw_ := gw_in (tk_3 _ (List.mem_of_getElem? (i := 66) (by decide +kernel))) rfl
theorem tw_664 : Cond.code yX4_addCode cX4_addCode 3 none ∈ gw_ := gw_in (tk_3 _ (List.mem_of_getElem? (i := 67) (by decide +kernel))) rfl
theorem tw_666 : Cond.methodLink RX4 93 yX4_countPart ∈ gw_ := gw_in (tk_3 _ (List.mem_of_getElem? (i := 69) (by decide +kernel))) rfl
theorem tw_668 : Cond.instanceMethod yX4_countPart ∈ gw_ := gw_in (tk_3 _ (List.mem_of_getElem? (i := 71) (by decide +kernel))) rfl
theorem tw_669 : Cond.code yX4_countPart cX4_countPart 2 (some .boolean) ∈ gw_ := gw_in (tk_3 _ (List.mem_of_getElem? (i := 72) (by decide +kernel))) rfl
theorem tw_670 : Cond.methodLink RX4 105 yX4_takeOperation ∈ gw_ := gw_in (tk_3 _ (List.mem_of_getElem? (i := 73) (by decide +kernel))) rfl
theorem tw_672 : Cond.instanceMethod yX4_takeOperation ∈ gw_ := gw_in (tk_3 _ (List.mem_of_getElem? (i := 75) (by decide +kernel))) rfl
theorem tw_673 : Cond.code yX4_takeOperation cX4_takeOperation 2 (some .int) ∈ gw_ := gw_in (tk_3 _ (List.mem_of_getElem? (i := 76) (by decide +kernel))) rfl
theorem tw_675 : Cond.methodLink RX4 54 yX4_readTest ∈ gw_ := gw_in (tk_3 _ (List.mem_of_getElem? (i := 78) (by decide +kernel))) rfl
theorem tw_677 : Cond.instanceMethod yX4_readTest ∈ gw_ := gw_in (tk_3 _ (List.mem_of_getElem? (i := 80) (by decide +kernel))) rfl
theorem tw_678 : Cond.code yX4_readTest cX4_readTest 5 (some .boolean) ∈ gw_ := gw_in (tk_3 _ (List.mem_of_getElem? (i := 81) (by decide +kernel))) rfl
theorem tw_679 : Cond.methodLink RX4 77 yX4_readFact ∈ gw_ := gw_in (tk_3 _ (List.mem_of_getElem? (i := 82) (by decide +kernel))) rfl
theorem tw_681 : Cond.instanceMethod yX4_readFact ∈ gw_ := gw_in (tk_3 _ (List.mem_of_getElem? (i := 84) (by decide +kernel))) rfl
theorem tw_682 : Cond.code yX4_readFact cX4_readFact 6 (some .boolean) ∈ gw_ := gw_in (tk_3 _ (List.mem_of_getElem? (i := 85) (by decide +kernel))) rfl
theorem tw_684 : Cond.methodLink RX4 73 yX8_takeSign ∈ gw_ := gw_in (tk_3 _ (List.mem_of_getElem? (i := 87) (by decide +kernel))) rfl
theorem tw_685 : Cond.methodLink RX4 84 yX4_readBrackets ∈ gw_ := gw_in (tk_3 _ (List.mem_of_getElem? (i := 88) (by decide +kernel))) rfl
theorem tw_687 : Cond.instanceMethod yX4_readBrackets ∈ gw_ := gw_in (tk_3 _ (List.mem_of_getElem? (i := 90) (by decide +kernel))) rfl
theorem tw_688 : Cond.code yX4_readBrackets cX4_readBrackets 2 (some .boolean) ∈ gw_ := gw_in (tk_3 _ (List.mem_of_getElem? (i := 91) (by decide +kernel))) rfl
theorem tw_689 : Cond.methodLink RX4 87 yX4_readComparison ∈ gw_ := gw_in (tk_3 _ (List.mem_of_getElem? (i := 92) (by decide +kernel))) rfl
theorem tw_691 : Cond.instanceMethod yX4_readComparison ∈ gw_ := gw_in (tk_3 _ (List.mem_of_getElem? (i := 94) (by decide +kernel))) rfl
theorem tw_692 : Cond.code yX4_readComparison cX4_readComparison 3 (some .boolean) ∈ gw_ := gw_in (tk_3 _ (List.mem_of_getElem? (i := 95) (by decide +kernel))) rfl
theorem tw_693 : Cond.methodLink RX4 90 yX4_takeComparison ∈ gw_ := gw_in (tk_3 _ (List.mem_of_getElem? (i := 96) (by decide +kernel))) rfl
theorem tw_695 : Cond.instanceMethod yX4_takeComparison ∈ gw_ := gw_in (tk_3 _ (List.mem_of_getElem? (i := 98) (by decide +kernel))) rfl
theorem tw_696 : Cond.code yX4_takeComparison cX4_takeComparison 3 (some .int) ∈ gw_ := gw_in (tk_3 _ (List.mem_of_getElem? (i := 99) (by decide +kernel))) rfl
theorem tw_698 : Cond.classLink RX4 62 RX3 ∈ gw_ := gw_in (tk_3 _ (List.mem_of_getElem? (i := 101) (by decide +kernel))) rfl
theorem tw_699 : Cond.instantiable RX3 2 ∈ gw_ := gw_in (tk_3 _ (List.mem_of_getElem? (i := 102) (by decide +kernel))) rfl
theorem tw_700 : Cond.methodLink RX4 64 yJ7_copyOf_59c91 ∈ gw_ := gw_in (tk_3 _ (List.mem_of_getElem? (i := 103) (by decide +kernel))) rfl
theorem tw_701 : Cond.static yJ7_copyOf_59c91 ∈ gw_ := gw_in (tk_3 _ (List.mem_of_getElem? (i := 104) (by decide +kernel))) rfl
theorem tw_702 : Cond.code yJ7_copyOf_59c91 cJ7_copyOf_59c91 3 (some (.array .int)) ∈ gw_ := gw_in (tk_3 _ (List.mem_of_getElem? (i := 105) (by decide +kernel))) rfl
theorem tw_710 : Cond.methodLink RJ7 304 Lib.Math.min.name ∈ gw_ := gw_in (tk_3 _ (List.mem_of_getElem? (i := 113) (by decide +kernel))) rfl
theorem tw_711 : Cond.static Lib.Math.min.name ∈ gw_ := gw_in (tk_3 _ (List.mem_of_getElem? (i := 114) (by decide +kernel))) rfl
theorem tw_712 : Cond.code Lib.Math.min.name Lib.Math.min.code 2 (some .int) ∈ gw_ := gw_in (tk_3 _ (List.mem_of_getElem? (i := 115) (by decide +kernel))) rfl
theorem tw_713 : Cond.methodLink RJ7 150 arraycopyName ∈ gw_ := gw_in (tk_3 _ (List.mem_of_getElem? (i := 116) (by decide +kernel))) rfl
theorem tw_714 : Cond.static arraycopyName ∈ gw_ := gw_in (tk_3 _ (List.mem_of_getElem? (i := 117) (by decide +kernel))) rfl
theorem tw_715 : Cond.native arraycopyName ∈ gw_ := gw_in (tk_3 _ (List.mem_of_getElem? (i := 118) (by decide +kernel))) rfl
theorem tw_716 : Cond.methodLink RX4 70 yX3_init ∈ gw_ := gw_in (tk_3 _ (List.mem_of_getElem? (i := 119) (by decide +kernel))) rfl
theorem tw_717 : Cond.instanceMethod yX3_init ∈ gw_ := gw_in (tk_3 _ (List.mem_of_getElem? (i := 120) (by decide +kernel))) rfl
theorem tw_718 : Cond.code yX3_init cX3_init 2 none ∈ gw_ := gw_in (tk_3 _ (List.mem_of_getElem? (i := 121) (by decide +kernel))) rfl
theorem tw_719 : Cond.methodLink RX3 3 objectInit ∈ gw_ := gw_in (tk_3 _ (List.mem_of_getElem? (i := 122) (by decide +kernel))) rfl
theorem tw_720 : Cond.fieldLink RX3 15 "BallotBook$Rule" "code" "[I" ∈ gw_ := gw_in (tk_3 _ (List.mem_of_getElem? (i := 123) (by decide +kernel))) rfl
theorem tw_721 : Cond.fieldLink RX3 9 "BallotBook$Rule" "stack" "[J" ∈ gw_ := gw_in (tk_3 _ (List.mem_of_getElem? (i := 124) (by decide +kernel))) rfl
theorem tw_730 : Cond.code yX9_force cX9_force 3 (some .int) ∈ gw_ := gw_in (tk_3 _ (List.mem_of_getElem? (i := 133) (by decide +kernel))) rfl
theorem tw_734 : Cond.code yX9_station cX9_station 3 (some .int) ∈ gw_ := gw_in (tk_3 _ (List.mem_of_getElem? (i := 137) (by decide +kernel))) rfl
theorem tw_735 : Cond.methodLink RX9 137 yX9_isStation ∈ gw_ := gw_in (tk_3 _ (List.mem_of_getElem? (i := 138) (by decide +kernel))) rfl
theorem tw_737 : Cond.instanceMethod yX9_isStation ∈ gw_ := gw_in (tk_3 _ (List.mem_of_getElem? (i := 140) (by decide +kernel))) rfl
theorem tw_738 : Cond.code yX9_isStation cX9_isStation 2 (some .boolean) ∈ gw_ := gw_in (tk_3 _ (List.mem_of_getElem? (i := 141) (by decide +kernel))) rfl
theorem tw_739 : Cond.methodLink RX9 144 yX5_isRecounted ∈ gw_ := gw_in (tk_3 _ (List.mem_of_getElem? (i := 142) (by decide +kernel))) rfl
theorem tw_740 : Cond.instanceMethod yX5_isRecounted ∈ gw_ := gw_in (tk_3 _ (List.mem_of_getElem? (i := 143) (by decide +kernel))) rfl
theorem tw_741 : Cond.selects RX5 yX5_isRecounted yX5_isRecounted ∈ gw_ := gw_in (tk_3 _ (List.mem_of_getElem? (i := 144) (by decide +kernel))) rfl
theorem tw_742 : Cond.code yX5_isRecounted cX5_isRecounted 2 (some .boolean) ∈ gw_ := gw_in (tk_3 _ (List.mem_of_getElem? (i := 145) (by decide +kernel))) rfl
theorem tw_743 : Cond.methodLink RX9 147 yX7_numberOf ∈ gw_ := gw_in (tk_3 _ (List.mem_of_getElem? (i := 146) (by decide +kernel))) rfl
theorem tw_744 : Cond.instanceMethod yX7_numberOf ∈ gw_ := gw_in (tk_3 _ (List.mem_of_getElem? (i := 147) (by decide +kernel))) rfl
theorem tw_745 : Cond.selects RX7 yX7_numberOf yX7_numberOf ∈ gw_ := gw_in (tk_3 _ (List.mem_of_getElem? (i := 148) (by decide +kernel))) rfl
theorem tw_746 : Cond.code yX7_numberOf cX7_numberOf 3 (some .int) ∈ gw_ := gw_in (tk_3 _ (List.mem_of_getElem? (i := 149) (by decide +kernel))) rfl
theorem tw_747 : Cond.methodLink RX7 41 yJ13_bitCount_95d88 ∈ gw_ := gw_in (tk_3 _ (List.mem_of_getElem? (i := 150) (by decide +kernel))) rfl
theorem tw_751 : Cond.code yX9_paper cX9_paper 4 (some .int) ∈ gw_ := gw_in (tk_3 _ (List.mem_of_getElem? (i := 154) (by decide +kernel))) rfl
theorem tw_752 : Cond.methodLink RX9 151 yX5_isPaper ∈ gw_ := gw_in (tk_3 _ (List.mem_of_getElem? (i := 155) (by decide +kernel))) rfl
theorem tw_753 : Cond.instanceMethod yX5_isPaper ∈ gw_ := gw_in (tk_3 _ (List.mem_of_getElem? (i := 156) (by decide +kernel))) rfl
theorem tw_754 : Cond.selects RX5 yX5_isPaper yX5_isPaper ∈ gw_ := gw_in (tk_3 _ (List.mem_of_getElem? (i := 157) (by decide +kernel))) rfl
theorem tw_755 : Cond.code yX5_isPaper cX5_isPaper 2 (some .boolean) ∈ gw_ := gw_in (tk_3 _ (List.mem_of_getElem? (i := 158) (by decide +kernel))) rfl
theorem tw_756 : Cond.methodLink RX9 154 yX5_stationOf ∈ gw_ := gw_in (tk_3 _ (List.mem_of_getElem? (i := 159) (by decide +kernel))) rfl
theorem tw_757 : Cond.methodLink RX9 158 yX5_kindOf ∈ gw_ := gw_in (tk_3 _ (List.mem_of_getElem? (i := 160) (by decide +kernel))) rfl
theorem tw_758 : Cond.methodLink RX9 161 yX5_placeOf ∈ gw_ := gw_in (tk_3 _ (List.mem_of_getElem? (i := 161) (by decide +kernel))) rfl
theorem tw_759 : Cond.instanceMethod yX5_placeOf ∈ gw_ := gw_in (tk_3 _ (List.mem_of_getElem? (i := 162) (by decide +kernel))) rfl
theorem tw_760 : Cond.selects RX5 yX5_placeOf yX5_placeOf ∈ gw_ := gw_in (tk_3 _ (List.mem_of_getElem? (i := 163) (by decide +kernel))) rfl
theorem tw_761 : Cond.code yX5_placeOf cX5_placeOf 4 (some .int) ∈ gw_ := gw_in (tk_3 _ (List.mem_of_getElem? (i := 164) (by decide +kernel))) rfl
theorem tw_762 : Cond.methodLink RX5 80 yJ13_bitCount_95d88 ∈ gw_ := gw_in (tk_3 _ (List.mem_of_getElem? (i := 165) (by decide +kernel))) rfl
theorem tw_766 : Cond.code yX9_row cX9_row 4 (some .int) ∈ gw_ := gw_in (tk_3 _ (List.mem_of_getElem? (i := 169) (by decide +kernel))) rfl
theorem tw_767 : Cond.methodLink RX9 164 yX5_paperAt ∈ gw_ := gw_in (tk_3 _ (List.mem_of_getElem? (i := 170) (by decide +kernel))) rfl
theorem tw_768 : Cond.instanceMethod yX5_paperAt ∈ gw_ := gw_in (tk_3 _ (List.mem_of_getElem? (i := 171) (by decide +kernel))) rfl
theorem tw_769 : Cond.selects RX5 yX5_paperAt yX5_paperAt ∈ gw_ := gw_in (tk_3 _ (List.mem_of_getElem? (i := 172) (by decide +kernel))) rfl
theorem tw_770 : Cond.code yX5_paperAt cX5_paperAt 5 (some .int) ∈ gw_ := gw_in (tk_3 _ (List.mem_of_getElem? (i := 173) (by decide +kernel))) rfl
theorem tw_771 : Cond.methodLink RX5 86 yX5_placeOf ∈ gw_ := gw_in (tk_3 _ (List.mem_of_getElem? (i := 174) (by decide +kernel))) rfl
theorem tw_775 : Cond.code yX9_runs cX9_runs 9 (some .int) ∈ gw_ := gw_in (tk_3 _ (List.mem_of_getElem? (i := 178) (by decide +kernel))) rfl
theorem tw_776 : Cond.constantLong RX9 172 (-1) ∈ gw_ := gw_in (tk_3 _ (List.mem_of_getElem? (i := 179) (by decide +kernel))) rfl
theorem tw_777 : Cond.methodLink RX9 174 yJ13_bitCount_95d88 ∈ gw_ := gw_in (tk_3 _ (List.mem_of_getElem? (i := 180) (by decide +kernel))) rfl
theorem tw_778 : Cond.methodLink RX9 180 yX7_bitAt ∈ gw_ := gw_in (tk_3 _ (List.mem_of_getElem? (i := 181) (by decide +kernel))) rfl
theorem tw_779 : Cond.static yX7_bitAt ∈ gw_ := gw_in (tk_3 _ (List.mem_of_getElem? (i := 182) (by decide +kernel))) rfl
theorem tw_780 : Cond.code yX7_bitAt cX7_bitAt 6 (some .int) ∈ gw_ := gw_in (tk_3 _ (List.mem_of_getElem? (i := 183) (by decide +kernel))) rfl
theorem tw_781 : Cond.methodLink RX7 51 yJ13_numberOfTrailingZeros_95d88 ∈ gw_ := gw_in (tk_3 _ (List.mem_of_getElem? (i := 184) (by decide +kernel))) rfl
theorem tw_782 : Cond.static yJ13_numberOfTrailingZeros_95d88 ∈ gw_ := gw_in (tk_3 _ (List.mem_of_getElem? (i := 185) (by decide +kernel))) rfl
theorem tw_783 : Cond.code yJ13_numberOfTrailingZeros_95d88 cJ13_numberOfTrailingZeros_95d88 3 (some .int) ∈ gw_ := gw_in (tk_3 _ (List.mem_of_getElem? (i := 186) (by decide +kernel))) rfl
theorem tw_784 : Cond.methodLink RJ13 311 yJ6_numberOfTrailingZeros_0f7a4 ∈ gw_ := gw_in (tk_3 _ (List.mem_of_getElem? (i := 187) (by decide +kernel))) rfl
theorem tw_785 : Cond.static yJ6_numberOfTrailingZeros_0f7a4 ∈ gw_ := gw_in (tk_3 _ (List.mem_of_getElem? (i := 188) (by decide +kernel))) rfl
theorem tw_786 : Cond.code yJ6_numberOfTrailingZeros_0f7a4 cJ6_numberOfTrailingZeros_0f7a4 2 (some .int) ∈ gw_ := gw_in (tk_3 _ (List.mem_of_getElem? (i := 189) (by decide +kernel))) rfl
theorem tw_787 : Cond.constant RJ6 264 (65536) ∈ gw_ := gw_in (tk_3 _ (List.mem_of_getElem? (i := 190) (by decide +kernel))) rfl
theorem tw_791 : Cond.code yX9_moved cX9_moved 3 (some .int) ∈ gw_ := gw_in (tk_3 _ (List.mem_of_getElem? (i := 194) (by decide +kernel))) rfl
theorem tw_792 : Cond.methodLink RX9 184 yX9_areTwo ∈ gw_ := gw_in (tk_3 _ (List.mem_of_getElem? (i := 195) (by decide +kernel))) rfl
theorem tw_794 : Cond.instanceMethod yX9_areTwo ∈ gw_ := gw_in (tk_3 _ (List.mem_of_getElem? (i := 197) (by decide +kernel))) rfl
theorem tw_795 : Cond.code yX9_areTwo cX9_areTwo 3 (some .boolean) ∈ gw_ := gw_in (tk_3 _ (List.mem_of_getElem? (i := 198) (by decide +kernel))) rfl
theorem tw_799 : Cond.code yX9_told cX9_told 3 (some .int) ∈ gw_ := gw_in (tk_3 _ (List.mem_of_getElem? (i := 202) (by decide +kernel))) rfl
theorem tw_800 : Cond.methodLink RX9 191 yX9_isKind ∈ gw_ := gw_in (tk_3 _ (List.mem_of_getElem? (i := 203) (by decide +kernel))) rfl
theorem tw_801 : Cond.static yX9_isKind ∈ gw_ := gw_in (tk_3 _ (List.mem_of_getElem? (i := 204) (by decide +kernel))) rfl
theorem tw_802 : Cond.code yX9_isKind cX9_isKind 1 (some .boolean) ∈ gw_ := gw_in (tk_3 _ (List.mem_of_getElem? (i := 205) (by decide +kernel))) rfl
theorem tw_806 : Cond.code yX9_hour cX9_hour 2 (some .int) ∈ gw_ := gw_in (tk_3 _ (List.mem_of_getElem? (i := 209) (by decide +kernel))) rfl
theorem tw_807 : Cond.methodLink RX9 200 yX2_keep ∈ gw_ := gw_in (tk_3 _ (List.mem_of_getElem? (i := 210) (by decide +kernel))) rfl
theorem tw_808 : Cond.instanceMethod yX2_keep ∈ gw_ := gw_in (tk_3 _ (List.mem_of_getElem? (i := 211) (by decide +kernel))) rfl
theorem tw_809 : Cond.selects RX2 yX2_keep yX2_keep ∈ gw_ := gw_in (tk_3 _ (List.mem_of_getElem? (i := 212) (by decide +kernel))) rfl
theorem tw_810 : Cond.code yX2_keep cX2_keep 3 none ∈ gw_ := gw_in (tk_3 _ (List.mem_of_getElem? (i := 213) (by decide +kernel))) rfl
theorem tw_811 : Cond.methodLink RX2 24 yX5_init ∈ gw_ := gw_in (tk_3 _ (List.mem_of_getElem? (i := 214) (by decide +kernel))) rfl
theorem tw_812 : Cond.methodLink RX2 25 yX5_copyFrom ∈ gw_ := gw_in (tk_3 _ (List.mem_of_getElem? (i := 215) (by decide +kernel))) rfl
theorem tw_813 : Cond.instanceMethod yX5_copyFrom ∈ gw_ := gw_in (tk_3 _ (List.mem_of_getElem? (i := 216) (by decide +kernel))) rfl
theorem tw_814 : Cond.selects RX5 yX5_copyFrom yX5_copyFrom ∈ gw_ := gw_in (tk_3 _ (List.mem_of_getElem? (i := 217) (by decide +kernel))) rfl
theorem tw_815 : Cond.code yX5_copyFrom cX5_copyFrom 2 none ∈ gw_ := gw_in (tk_3 _ (List.mem_of_getElem? (i := 218) (by decide +kernel))) rfl
theorem tw_816 : Cond.methodLink RX5 60 yX7_copyFrom ∈ gw_ := gw_in (tk_3 _ (List.mem_of_getElem? (i := 219) (by decide +kernel))) rfl
theorem tw_817 : Cond.methodLink RX5 64 arraycopyName ∈ gw_ := gw_in (tk_3 _ (List.mem_of_getElem? (i := 220) (by decide +kernel))) rfl
theorem tw_818 : Cond.methodLink RX9 203 yX9_ruleInForce ∈ gw_ := gw_in (tk_3 _ (List.mem_of_getElem? (i := 221) (by decide +kernel))) rfl
theorem tw_820 : Cond.instanceMethod yX9_ruleInForce ∈ gw_ := gw_in (tk_3 _ (List.mem_of_getElem? (i := 223) (by decide +kernel))) rfl
theorem tw_821 : Cond.code yX9_ruleInForce cX9_ruleInForce 1 (some (.object "BallotBook$Rule")) ∈ gw_ := gw_in (tk_3 _ (List.mem_of_getElem? (i := 224) (by decide +kernel))) rfl
theorem tw_822 : Cond.methodLink RX9 306 yX9_ruleNumbered ∈ gw_ := gw_in (tk_3 _ (List.mem_of_getElem? (i := 225) (by decide +kernel))) rfl
theorem tw_824 : Cond.instanceMethod yX9_ruleNumbered ∈ gw_ := gw_in (tk_3 _ (List.mem_of_getElem? (i := 227) (by decide +kernel))) rfl
theorem tw_825 : Cond.code yX9_ruleNumbered cX9_ruleNumbered 2 (some (.object "BallotBook$Rule")) ∈ gw_ := gw_in (tk_3 _ (List.mem_of_getElem? (i := 228) (by decide +kernel))) rfl
theorem tw_826 : Cond.methodLink RX9 206 yX5_passHourByHand ∈ gw_ := gw_in (tk_3 _ (List.mem_of_getElem? (i := 229) (by decide +kernel))) rfl
theorem tw_827 : Cond.instanceMethod yX5_passHourByHand ∈ gw_ := gw_in (tk_3 _ (List.mem_of_getElem? (i := 230) (by decide +kernel))) rfl
theorem tw_828 : Cond.selects RX5 yX5_passHourByHand yX5_passHourByHand ∈ gw_ := gw_in (tk_3 _ (List.mem_of_getElem? (i := 231) (by decide +kernel))) rfl
theorem tw_829 : Cond.code yX5_passHourByHand cX5_passHourByHand 6 (some .int) ∈ gw_ := gw_in (tk_3 _ (List.mem_of_getElem? (i := 232) (by decide +kernel))) rfl
theorem tw_830 : Cond.methodLink RX5 112 yX7_choose ∈ gw_ := gw_in (tk_3 _ (List.mem_of_getElem? (i := 233) (by decide +kernel))) rfl
theorem tw_831 : Cond.instanceMethod yX7_choose ∈ gw_ := gw_in (tk_3 _ (List.mem_of_getElem? (i := 234) (by decide +kernel))) rfl
theorem tw_832 : Cond.selects RX7 yX7_choose yX7_choose ∈ gw_ := gw_in (tk_3 _ (List.mem_of_getElem? (i := 235) (by decide +kernel))) rfl
theorem tw_833 : Cond.code yX7_choose cX7_choose 8 (some .int) ∈ gw_ := gw_in (tk_3 _ (List.mem_of_getElem? (i := 236) (by decide +kernel))) rfl
theorem tw_834 : Cond.methodLink RX7 78 yX7_serverBits ∈ gw_ := gw_in (tk_3 _ (List.mem_of_getElem? (i := 237) (by decide +kernel))) rfl
theorem tw_835 : Cond.instanceMethod yX7_serverBits ∈ gw_ := gw_in (tk_3 _ (List.mem_of_getElem? (i := 238) (by decide +kernel))) rfl
theorem tw_836 : Cond.selects RX7 yX7_serverBits yX7_serverBits ∈ gw_ := gw_in (tk_3 _ (List.mem_of_getElem? (i := 239) (by decide +kernel))) rfl
theorem tw_837 : Cond.code yX7_serverBits cX7_serverBits 3 (some .int) ∈ gw_ := gw_in (tk_4 _ (List.mem_of_getElem? (i := 0) (by decide +kernel))) rfl
theorem tw_838 : Cond.methodLink RX7 62 yX7_canServe ∈ gw_ := gw_in (tk_4 _ (List.mem_of_getElem? (i := 1) (by decide +kernel))) rfl
theorem tw_839 : Cond.instanceMethod yX7_canServe ∈ gw_ := gw_in (tk_4 _ (List.mem_of_getElem? (i := 2) (by decide +kernel))) rfl
theorem tw_840 : Cond.selects RX7 yX7_canServe yX7_canServe ∈ gw_ := gw_in (tk_4 _ (List.mem_of_getElem? (i := 3) (by decide +kernel))) rfl
theorem tw_841 : Cond.code yX7_canServe cX7_canServe 2 (some .boolean) ∈ gw_ := gw_in (tk_4 _ (List.mem_of_getElem? (i := 4) (by decide +kernel))) rfl
theorem tw_842 : Cond.methodLink RX7 82 yJ6_numberOfTrailingZeros_0f7a4 ∈ gw_ := gw_in (tk_4 _ (List.mem_of_getElem? (i := 5) (by decide +kernel))) rfl
theorem tw_843 : Cond.methodLink RX7 87 yX7_sumOf ∈ gw_ := gw_in (tk_4 _ (List.mem_of_getElem? (i := 6) (by decide +kernel))) rfl
theorem tw_844 : Cond.instanceMethod yX7_sumOf ∈ gw_ := gw_in (tk_4 _ (List.mem_of_getElem? (i := 7) (by decide +kernel))) rfl
theorem tw_845 : Cond.selects RX7 yX7_sumOf yX7_sumOf ∈ gw_ := gw_in (tk_4 _ (List.mem_of_getElem? (i := 8) (by decide +kernel))) rfl
theorem tw_846 : Cond.code yX7_sumOf cX7_sumOf 4 (some .int) ∈ gw_ := gw_in (tk_4 _ (List.mem_of_getElem? (i := 9) (by decide +kernel))) rfl
theorem tw_847 : Cond.methodLink RX7 47 yX7_numberOf ∈ gw_ := gw_in (tk_4 _ (List.mem_of_getElem? (i := 10) (by decide +kernel))) rfl
theorem tw_848 : Cond.methodLink RX7 90 yX3_worth ∈ gw_ := gw_in (tk_4 _ (List.mem_of_getElem? (i := 11) (by decide +kernel))) rfl
theorem tw_849 : Cond.instanceMethod yX3_worth ∈ gw_ := gw_in (tk_4 _ (List.mem_of_getElem? (i := 12) (by decide +kernel))) rfl
theorem tw_850 : Cond.selects RX3 yX3_worth yX3_worth ∈ gw_ := gw_in (tk_4 _ (List.mem_of_getElem? (i := 13) (by decide +kernel))) rfl
theorem tw_851 : Cond.code yX3_worth cX3_worth 7 (some .long) ∈ gw_ := gw_in (tk_4 _ (List.mem_of_getElem? (i := 14) (by decide +kernel))) rfl
theorem tw_852 : Cond.methodLink RX3 19 yX7_wordValue ∈ gw_ := gw_in (tk_4 _ (List.mem_of_getElem? (i := 15) (by decide +kernel))) rfl
theorem tw_853 : Cond.instanceMethod yX7_wordValue ∈ gw_ := gw_in (tk_4 _ (List.mem_of_getElem? (i := 16) (by decide +kernel))) rfl
theorem tw_854 : Cond.selects RX7 yX7_wordValue yX7_wordValue ∈ gw_ := gw_in (tk_4 _ (List.mem_of_getElem? (i := 17) (by decide +kernel))) rfl
theorem tw_855 : Cond.code yX7_wordValue cX7_wordValue 3 (some .long) ∈ gw_ := gw_in (tk_4 _ (List.mem_of_getElem? (i := 18) (by decide +kernel))) rfl
theorem tw_856 : Cond.constantLong RX7 54 (-1) ∈ gw_ := gw_in (tk_4 _ (List.mem_of_getElem? (i := 19) (by decide +kernel))) rfl
theorem tw_857 : Cond.methodLink RX3 25 yX3_truth ∈ gw_ := gw_in (tk_4 _ (List.mem_of_getElem? (i := 20) (by decide +kernel))) rfl
theorem tw_858 : Cond.static yX3_truth ∈ gw_ := gw_in (tk_4 _ (List.mem_of_getElem? (i := 21) (by decide +kernel))) rfl
theorem tw_859 : Cond.code yX3_truth cX3_truth 1 (some .long) ∈ gw_ := gw_in (tk_4 _ (List.mem_of_getElem? (i := 22) (by decide +kernel))) rfl
theorem tw_860 : Cond.methodLink RX3 29 yX3_joined ∈ gw_ := gw_in (tk_4 _ (List.mem_of_getElem? (i := 23) (by decide +kernel))) rfl
theorem tw_861 : Cond.static yX3_joined ∈ gw_ := gw_in (tk_4 _ (List.mem_of_getElem? (i := 24) (by decide +kernel))) rfl
theorem tw_862 : Cond.code yX3_joined cX3_joined 5 (some .long) ∈ gw_ := gw_in (tk_4 _ (List.mem_of_getElem? (i := 25) (by decide +kernel))) rfl
theorem tw_863 : Cond.methodLink RX5 116 yX7_serve ∈ gw_ := gw_in (tk_4 _ (List.mem_of_getElem? (i := 26) (by decide +kernel))) rfl
theorem tw_864 : Cond.instanceMethod yX7_serve ∈ gw_ := gw_in (tk_4 _ (List.mem_of_getElem? (i := 27) (by decide +kernel))) rfl
theorem tw_865 : Cond.selects RX7 yX7_serve yX7_serve ∈ gw_ := gw_in (tk_4 _ (List.mem_of_getElem? (i := 28) (by decide +kernel))) rfl
theorem tw_866 : Cond.code yX7_serve cX7_serve 4 none ∈ gw_ := gw_in (tk_4 _ (List.mem_of_getElem? (i := 29) (by decide +kernel))) rfl
theorem tw_867 : Cond.methodLink RX7 96 yJ13_lowestOneBit_067f4 ∈ gw_ := gw_in (tk_4 _ (List.mem_of_getElem? (i := 30) (by decide +kernel))) rfl
theorem tw_868 : Cond.static yJ13_lowestOneBit_067f4 ∈ gw_ := gw_in (tk_4 _ (List.mem_of_getElem? (i := 31) (by decide +kernel))) rfl
theorem tw_869 : Cond.code yJ13_lowestOneBit_067f4 cJ13_lowestOneBit_067f4 2 (some .long) ∈ gw_ := gw_in (tk_4 _ (List.mem_of_getElem? (i := 32) (by decide +kernel))) rfl
theorem tw_870 : Cond.methodLink RX5 120 yJ13_numberOfTrailingZeros_95d88 ∈ gw_ := gw_in (tk_4 _ (List.mem_of_getElem? (i := 33) (by decide +kernel))) rfl
theorem tw_874 : Cond.code yX9_move cX9_move 6 (some .int) ∈ gw_ := gw_in (tk_4 _ (List.mem_of_getElem? (i := 37) (by decide +kernel))) rfl
theorem tw_875 : Cond.methodLink RX9 210 yX9_isMany ∈ gw_ := gw_in (tk_4 _ (List.mem_of_getElem? (i := 38) (by decide +kernel))) rfl
theorem tw_876 : Cond.static yX9_isMany ∈ gw_ := gw_in (tk_4 _ (List.mem_of_getElem? (i := 39) (by decide +kernel))) rfl
theorem tw_877 : Cond.code yX9_isMany cX9_isMany 1 (some .boolean) ∈ gw_ := gw_in (tk_4 _ (List.mem_of_getElem? (i := 40) (by decide +kernel))) rfl
theorem tw_878 : Cond.methodLink RX9 216 yX5_firstOf ∈ gw_ := gw_in (tk_4 _ (List.mem_of_getElem? (i := 41) (by decide +kernel))) rfl
theorem tw_879 : Cond.instanceMethod yX5_firstOf ∈ gw_ := gw_in (tk_4 _ (List.mem_of_getElem? (i := 42) (by decide +kernel))) rfl
theorem tw_880 : Cond.selects RX5 yX5_firstOf yX5_firstOf ∈ gw_ := gw_in (tk_4 _ (List.mem_of_getElem? (i := 43) (by decide +kernel))) rfl
theorem tw_881 : Cond.code yX5_firstOf cX5_firstOf 5 (some .int) ∈ gw_ := gw_in (tk_4 _ (List.mem_of_getElem? (i := 44) (by decide +kernel))) rfl
theorem tw_882 : Cond.methodLink RX9 219 yX5_shift ∈ gw_ := gw_in (tk_4 _ (List.mem_of_getElem? (i := 45) (by decide +kernel))) rfl
theorem tw_883 : Cond.instanceMethod yX5_shift ∈ gw_ := gw_in (tk_4 _ (List.mem_of_getElem? (i := 46) (by decide +kernel))) rfl
theorem tw_884 : Cond.selects RX5 yX5_shift yX5_shift ∈ gw_ := gw_in (tk_4 _ (List.mem_of_getElem? (i := 47) (by decide +kernel))) rfl
theorem tw_885 : Cond.code yX5_shift cX5_shift 6 none ∈ gw_ := gw_in (tk_4 _ (List.mem_of_getElem? (i := 48) (by decide +kernel))) rfl
theorem tw_886 : Cond.methodLink RX5 103 yX5_isPaper ∈ gw_ := gw_in (tk_4 _ (List.mem_of_getElem? (i := 49) (by decide +kernel))) rfl
theorem tw_887 : Cond.methodLink RX5 107 yX5_put ∈ gw_ := gw_in (tk_4 _ (List.mem_of_getElem? (i := 50) (by decide +kernel))) rfl
theorem tw_888 : Cond.constantLong RX5 110 (15) ∈ gw_ := gw_in (tk_4 _ (List.mem_of_getElem? (i := 51) (by decide +kernel))) rfl
theorem tw_892 : Cond.code yX9_lend cX9_lend 6 (some .int) ∈ gw_ := gw_in (tk_4 _ (List.mem_of_getElem? (i := 55) (by decide +kernel))) rfl
theorem tw_893 : Cond.methodLink RX9 223 yX7_greatest ∈ gw_ := gw_in (tk_4 _ (List.mem_of_getElem? (i := 56) (by decide +kernel))) rfl
theorem tw_894 : Cond.static yX7_greatest ∈ gw_ := gw_in (tk_4 _ (List.mem_of_getElem? (i := 57) (by decide +kernel))) rfl
theorem tw_895 : Cond.code yX7_greatest cX7_greatest 2 (some .int) ∈ gw_ := gw_in (tk_4 _ (List.mem_of_getElem? (i := 58) (by decide +kernel))) rfl
theorem tw_896 : Cond.methodLink RX7 108 yJ13_numberOfLeadingZeros_95d88 ∈ gw_ := gw_in (tk_4 _ (List.mem_of_getElem? (i := 59) (by decide +kernel))) rfl
theorem tw_897 : Cond.static yJ13_numberOfLeadingZeros_95d88 ∈ gw_ := gw_in (tk_4 _ (List.mem_of_getElem? (i := 60) (by decide +kernel))) rfl
theorem tw_898 : Cond.code yJ13_numberOfLeadingZeros_95d88 cJ13_numberOfLeadingZeros_95d88 3 (some .int) ∈ gw_ := gw_in (tk_4 _ (List.mem_of_getElem? (i := 61) (by decide +kernel))) rfl
theorem tw_899 : Cond.methodLink RJ13 308 yJ6_numberOfLeadingZeros_0f7a4 ∈ gw_ := gw_in (tk_4 _ (List.mem_of_getElem? (i := 62) (by decide +kernel))) rfl
theorem tw_900 : Cond.static yJ6_numberOfLeadingZeros_0f7a4 ∈ gw_ := gw_in (tk_4 _ (List.mem_of_getElem? (i := 63) (by decide +kernel))) rfl
theorem tw_901 : Cond.code yJ6_numberOfLeadingZeros_0f7a4 cJ6_numberOfLeadingZeros_0f7a4 2 (some .int) ∈ gw_ := gw_in (tk_4 _ (List.mem_of_getElem? (i := 64) (by decide +kernel))) rfl
theorem tw_905 : Cond.code yX9_spoil cX9_spoil 4 (some .int) ∈ gw_ := gw_in (tk_4 _ (List.mem_of_getElem? (i := 68) (by decide +kernel))) rfl
theorem tw_906 : Cond.methodLink RX9 226 yX5_put ∈ gw_ := gw_in (tk_4 _ (List.mem_of_getElem? (i := 69) (by decide +kernel))) rfl
theorem tw_910 : Cond.code yX9_find cX9_find 4 (some .int) ∈ gw_ := gw_in (tk_4 _ (List.mem_of_getElem? (i := 73) (by decide +kernel))) rfl
theorem tw_914 : Cond.code yX9_send cX9_send 5 (some .int) ∈ gw_ := gw_in (tk_4 _ (List.mem_of_getElem? (i := 77) (by decide +kernel))) rfl
theorem tw_918 : Cond.code yX9_tell cX9_tell 5 (some .int) ∈ gw_ := gw_in (tk_4 _ (List.mem_of_getElem? (i := 81) (by decide +kernel))) rfl
theorem tw_919 : Cond.methodLink RX9 236 yX5_saidCount ∈ gw_ := gw_in (tk_4 _ (List.mem_of_getElem? (i := 82) (by decide +kernel))) rfl
theorem tw_920 : Cond.instanceMethod yX5_saidCount ∈ gw_ := gw_in (tk_4 _ (List.mem_of_getElem? (i := 83) (by decide +kernel))) rfl
theorem tw_921 : Cond.selects RX5 yX5_saidCount yX5_saidCount ∈ gw_ := gw_in (tk_4 _ (List.mem_of_getElem? (i := 84) (by decide +kernel))) rfl
theorem tw_922 : Cond.code yX5_saidCount cX5_saidCount 4 (some .int) ∈ gw_ := gw_in (tk_4 _ (List.mem_of_getElem? (i := 85) (by decide +kernel))) rfl
theorem tw_926 : Cond.code yX9_recount cX9_recount 4 (some .int) ∈ gw_ := gw_in (tk_4 _ (List.mem_of_getElem? (i := 89) (by decide +kernel))) rfl
theorem tw_927 : Cond.methodLink RX9 242 yJ6_bitCount_0f7a4 ∈ gw_ := gw_in (tk_4 _ (List.mem_of_getElem? (i := 90) (by decide +kernel))) rfl
theorem tw_928 : Cond.static yJ6_bitCount_0f7a4 ∈ gw_ := gw_in (tk_4 _ (List.mem_of_getElem? (i := 91) (by decide +kernel))) rfl
theorem tw_929 : Cond.code yJ6_bitCount_0f7a4 cJ6_bitCount_0f7a4 1 (some .int) ∈ gw_ := gw_in (tk_4 _ (List.mem_of_getElem? (i := 92) (by decide +kernel))) rfl
theorem tw_930 : Cond.constant RJ6 265 (1431655765) ∈ gw_ := gw_in (tk_4 _ (List.mem_of_getElem? (i := 93) (by decide +kernel))) rfl
theorem tw_931 : Cond.constant RJ6 266 (858993459) ∈ gw_ := gw_in (tk_4 _ (List.mem_of_getElem? (i := 94) (by decide +kernel))) rfl
theorem tw_932 : Cond.constant RJ6 267 (252645135) ∈ gw_ := gw_in (tk_4 _ (List.mem_of_getElem? (i := 95) (by decide +kernel))) rfl
theorem tw_936 : Cond.code yX9_undo cX9_undo 1 (some .int) ∈ gw_ := gw_in (tk_4 _ (List.mem_of_getElem? (i := 99) (by decide +kernel))) rfl
theorem tw_937 : Cond.methodLink RX9 246 yX2_giveBack ∈ gw_ := gw_in (tk_4 _ (List.mem_of_getElem? (i := 100) (by decide +kernel))) rfl
theorem tw_938 : Cond.instanceMethod yX2_giveBack ∈ gw_ := gw_in (tk_4 _ (List.mem_of_getElem? (i := 101) (by decide +kernel))) rfl
theorem tw_939 : Cond.selects RX2 yX2_giveBack yX2_giveBack ∈ gw_ := gw_in (tk_4 _ (List.mem_of_getElem? (i := 102) (by decide +kernel))) rfl
theorem tw_940 : Cond.code yX2_giveBack cX2_giveBack 3 (some .boolean) ∈ gw_ := gw_in (tk_4 _ (List.mem_of_getElem? (i := 103) (by decide +kernel))) rfl
theorem tw_944 : Cond.code yX9_way cX9_way 3 (some .int) ∈ gw_ := gw_in (tk_4 _ (List.mem_of_getElem? (i := 107) (by decide +kernel))) rfl
theorem tw_945 : Cond.methodLink RX9 253 yX5_stepOf ∈ gw_ := gw_in (tk_4 _ (List.mem_of_getElem? (i := 108) (by decide +kernel))) rfl
theorem tw_946 : Cond.instanceMethod yX5_stepOf ∈ gw_ := gw_in (tk_4 _ (List.mem_of_getElem? (i := 109) (by decide +kernel))) rfl
theorem tw_947 : Cond.selects RX5 yX5_stepOf yX5_stepOf ∈ gw_ := gw_in (tk_4 _ (List.mem_of_getElem? (i := 110) (by decide +kernel))) rfl
theorem tw_948 : Cond.code yX5_stepOf cX5_stepOf 4 (some .int) ∈ gw_ := gw_in (tk_4 _ (List.mem_of_getElem? (i := 111) (by decide +kernel))) rfl
theorem tw_952 : Cond.code yX9_balance cX9_balance 2 (some .int) ∈ gw_ := gw_in (tk_4 _ (List.mem_of_getElem? (i := 115) (by decide +kernel))) rfl
theorem tw_953 : Cond.methodLink RX9 256 yX5_gapOf ∈ gw_ := gw_in (tk_4 _ (List.mem_of_getElem? (i := 116) (by decide +kernel))) rfl
theorem tw_954 : Cond.instanceMethod yX5_gapOf ∈ gw_ := gw_in (tk_4 _ (List.mem_of_getElem? (i := 117) (by decide +kernel))) rfl
theorem tw_955 : Cond.selects RX5 yX5_gapOf yX5_gapOf ∈ gw_ := gw_in (tk_4 _ (List.mem_of_getElem? (i := 118) (by decide +kernel))) rfl
theorem tw_956 : Cond.code yX5_gapOf cX5_gapOf 4 (some .int) ∈ gw_ := gw_in (tk_4 _ (List.mem_of_getElem? (i := 119) (by decide +kernel))) rfl
theorem tw_960 : Cond.code yX9_slips cX9_slips 3 (some .int) ∈ gw_ := gw_in (tk_4 _ (List.mem_of_getElem? (i := 123) (by decide +kernel))) rfl
theorem tw_961 : Cond.methodLink RX9 259 yX9_searchSlips ∈ gw_ := gw_in (tk_4 _ (List.mem_of_getElem? (i := 124) (by decide +kernel))) rfl
theorem tw_963 : Cond.instanceMethod yX9_searchSlips ∈ gw_ := gw_in (tk_4 _ (List.mem_of_getElem? (i := 126) (by decide +kernel))) rfl
theorem tw_964 : Cond.code yX9_searchSlips cX9_searchSlips 6 (some .boolean) ∈ gw_ := gw_in (tk_4 _ (List.mem_of_getElem? (i := 127) (by decide +kernel))) rfl
theorem tw_965 : Cond.constant RX9 334 (2147483647) ∈ gw_ := gw_in (tk_4 _ (List.mem_of_getElem? (i := 128) (by decide +kernel))) rfl
theorem tw_966 : Cond.methodLink RX9 335 yX6_run ∈ gw_ := gw_in (tk_4 _ (List.mem_of_getElem? (i := 129) (by decide +kernel))) rfl
theorem tw_967 : Cond.instanceMethod yX6_run ∈ gw_ := gw_in (tk_4 _ (List.mem_of_getElem? (i := 130) (by decide +kernel))) rfl
theorem tw_968 : Cond.selects RX6 yX6_run yX6_run ∈ gw_ := gw_in (tk_4 _ (List.mem_of_getElem? (i := 131) (by decide +kernel))) rfl
theorem tw_969 : Cond.code yX6_run cX6_run 4 (some .boolean) ∈ gw_ := gw_in (tk_4 _ (List.mem_of_getElem? (i := 132) (by decide +kernel))) rfl
theorem tw_970 : Cond.methodLink RX6 21 Lib.Math.min.name ∈ gw_ := gw_in (tk_4 _ (List.mem_of_getElem? (i := 133) (by decide +kernel))) rfl
theorem tw_971 : Cond.methodLink RX6 43 yX6_descend ∈ gw_ := gw_in (tk_4 _ (List.mem_of_getElem? (i := 134) (by decide +kernel))) rfl
theorem tw_972 : Cond.static yX6_descend ∈ gw_ := gw_in (tk_4 _ (List.mem_of_getElem? (i := 135) (by decide +kernel))) rfl
theorem tw_973 : Cond.code yX6_descend cX6_descend 13 none ∈ gw_ := gw_in (tk_4 _ (List.mem_of_getElem? (i := 136) (by decide +kernel))) rfl
theorem tw_974 : Cond.methodLink RX6 47 Lib.Math.max.name ∈ gw_ := gw_in (tk_4 _ (List.mem_of_getElem? (i := 137) (by decide +kernel))) rfl
theorem tw_975 : Cond.static Lib.Math.max.name ∈ gw_ := gw_in (tk_4 _ (List.mem_of_getElem? (i := 138) (by decide +kernel))) rfl
theorem tw_976 : Cond.code Lib.Math.max.name Lib.Math.max.code 2 (some .int) ∈ gw_ := gw_in (tk_4 _ (List.mem_of_getElem? (i := 139) (by decide +kernel))) rfl
theorem tw_977 : Cond.methodLink RX6 50 yX6_weigh ∈ gw_ := gw_in (tk_4 _ (List.mem_of_getElem? (i := 140) (by decide +kernel))) rfl
theorem tw_979 : Cond.instanceMethod yX6_weigh ∈ gw_ := gw_in (tk_4 _ (List.mem_of_getElem? (i := 142) (by decide +kernel))) rfl
theorem tw_980 : Cond.code yX6_weigh cX6_weigh 10 none ∈ gw_ := gw_in (tk_4 _ (List.mem_of_getElem? (i := 143) (by decide +kernel))) rfl
theorem tw_981 : Cond.methodLink RX6 54 Lib.Math.abs.name ∈ gw_ := gw_in (tk_4 _ (List.mem_of_getElem? (i := 144) (by decide +kernel))) rfl
theorem tw_982 : Cond.static Lib.Math.abs.name ∈ gw_ := gw_in (tk_4 _ (List.mem_of_getElem? (i := 145) (by decide +kernel))) rfl
theorem tw_983 : Cond.code Lib.Math.abs.name Lib.Math.abs.code 1 (some .int) ∈ gw_ := gw_in (tk_4 _ (List.mem_of_getElem? (i := 146) (by decide +kernel))) rfl
theorem tw_984 : Cond.methodLink RX6 64 arraycopyName ∈ gw_ := gw_in (tk_4 _ (List.mem_of_getElem? (i := 147) (by decide +kernel))) rfl
theorem tw_988 : Cond.code yX9_must cX9_must 1 (some .int) ∈ gw_ := gw_in (tk_4 _ (List.mem_of_getElem? (i := 151) (by decide +kernel))) rfl
theorem tw_989 : Cond.methodLink RX9 274 yX9_stationsThatMustSlip ∈ gw_ := gw_in (tk_4 _ (List.mem_of_getElem? (i := 152) (by decide +kernel))) rfl
theorem tw_991 : Cond.instanceMethod yX9_stationsThatMustSlip ∈ gw_ := gw_in (tk_4 _ (List.mem_of_getElem? (i := 154) (by decide +kernel))) rfl
theorem tw_992 : Cond.code yX9_stationsThatMustSlip cX9_stationsThatMustSlip 5 (some .int) ∈ gw_ := gw_in (tk_4 _ (List.mem_of_getElem? (i := 155) (by decide +kernel))) rfl
theorem tw_996 : Cond.code yX9_free cX9_free 2 (some .int) ∈ gw_ := gw_in (tk_4 _ (List.mem_of_getElem? (i := 159) (by decide +kernel))) rfl
theorem tw_1000 : Cond.code yX9_leaves cX9_leaves 2 (some .int) ∈ gw_ := gw_in (tk_4 _ (List.mem_of_getElem? (i := 163) (by decide +kernel))) rfl
theorem tw_1004 : Cond.code yX9_ahead cX9_ahead 4 (some .int) ∈ gw_ := gw_in (tk_4 _ (List.mem_of_getElem? (i := 167) (by decide +kernel))) rfl
theorem tw_1005 : Cond.methodLink RX9 278 yX7_passHours ∈ gw_ := gw_in (tk_4 _ (List.mem_of_getElem? (i := 168) (by decide +kernel))) rfl
theorem tw_1006 : Cond.instanceMethod yX7_passHours ∈ gw_ := gw_in (tk_4 _ (List.mem_of_getElem? (i := 169) (by decide +kernel))) rfl
theorem tw_1007 : Cond.selects RX7 yX7_passHours yX7_passHours ∈ gw_ := gw_in (tk_4 _ (List.mem_of_getElem? (i := 170) (by decide +kernel))) rfl
theorem tw_1008 : Cond.code yX7_passHours cX7_passHours 4 none ∈ gw_ := gw_in (tk_4 _ (List.mem_of_getElem? (i := 171) (by decide +kernel))) rfl
theorem tw_1009 : Cond.methodLink RX7 74 yX7_passHour ∈ gw_ := gw_in (tk_4 _ (List.mem_of_getElem? (i := 172) (by decide +kernel))) rfl
theorem tw_1010 : Cond.instanceMethod yX7_passHour ∈ gw_ := gw_in (tk_4 _ (List.mem_of_getElem? (i := 173) (by decide +kernel))) rfl
theorem tw_1011 : Cond.selects RX7 yX7_passHour yX7_passHour ∈ gw_ := gw_in (tk_4 _ (List.mem_of_getElem? (i := 174) (by decide +kernel))) rfl
theorem tw_1012 : Cond.code yX7_passHour cX7_passHour 3 none ∈ gw_ := gw_in (tk_4 _ (List.mem_of_getElem? (i := 175) (by decide +kernel))) rfl
theorem tw_1013 : Cond.methodLink RX7 66 yX7_choose ∈ gw_ := gw_in (tk_4 _ (List.mem_of_getElem? (i := 176) (by decide +kernel))) rfl
theorem tw_1014 : Cond.methodLink RX7 70 yX7_serve ∈ gw_ := gw_in (tk_4 _ (List.mem_of_getElem? (i := 177) (by decide +kernel))) rfl
theorem tw_1018 : Cond.code yX9_dry cX9_dry 4 (some .int) ∈ gw_ := gw_in (tk_4 _ (List.mem_of_getElem? (i := 181) (by decide +kernel))) rfl
theorem tw_1019 : Cond.methodLink RX9 282 yX7_passHour ∈ gw_ := gw_in (tk_4 _ (List.mem_of_getElem? (i := 182) (by decide +kernel))) rfl
theorem tw_1023 : Cond.code yX9_served cX9_served 3 (some .int) ∈ gw_ := gw_in (tk_4 _ (List.mem_of_getElem? (i := 186) (by decide +kernel))) rfl
theorem tw_1024 : Cond.methodLink RX9 286 yX7_sumOf ∈ gw_ := gw_in (tk_4 _ (List.mem_of_getElem? (i := 187) (by decide +kernel))) rfl
theorem tw_1028 : Cond.code yX9_more cX9_more 8 (some .int) ∈ gw_ := gw_in (tk_4 _ (List.mem_of_getElem? (i := 191) (by decide +kernel))) rfl
theorem tw_1029 : Cond.methodLink RX9 289 yX9_waitingAfterGift ∈ gw_ := gw_in (tk_4 _ (List.mem_of_getElem? (i := 192) (by decide +kernel))) rfl
theorem tw_1031 : Cond.instanceMethod yX9_waitingAfterGift ∈ gw_ := gw_in (tk_4 _ (List.mem_of_getElem? (i := 194) (by decide +kernel))) rfl
theorem tw_1032 : Cond.code yX9_waitingAfterGift cX9_waitingAfterGift 4 (some .int) ∈ gw_ := gw_in (tk_4 _ (List.mem_of_getElem? (i := 195) (by decide +kernel))) rfl
theorem tw_1033 : Cond.methodLink RX9 338 yX7_give ∈ gw_ := gw_in (tk_4 _ (List.mem_of_getElem? (i := 196) (by decide +kernel))) rfl
theorem tw_1034 : Cond.instanceMethod yX7_give ∈ gw_ := gw_in (tk_4 _ (List.mem_of_getElem? (i := 197) (by decide +kernel))) rfl
theorem tw_1035 : Cond.selects RX7 yX7_give yX7_give ∈ gw_ := gw_in (tk_4 _ (List.mem_of_getElem? (i := 198) (by decide +kernel))) rfl
theorem tw_1036 : Cond.code yX7_give cX7_give 7 none ∈ gw_ := gw_in (tk_4 _ (List.mem_of_getElem? (i := 199) (by decide +kernel))) rfl
theorem tw_1037 : Cond.methodLink RX7 100 yJ13_highestOneBit_067f4 ∈ gw_ := gw_in (tk_4 _ (List.mem_of_getElem? (i := 200) (by decide +kernel))) rfl
theorem tw_1038 : Cond.static yJ13_highestOneBit_067f4 ∈ gw_ := gw_in (tk_4 _ (List.mem_of_getElem? (i := 201) (by decide +kernel))) rfl
theorem tw_1039 : Cond.code yJ13_highestOneBit_067f4 cJ13_highestOneBit_067f4 2 (some .long) ∈ gw_ := gw_in (tk_4 _ (List.mem_of_getElem? (i := 202) (by decide +kernel))) rfl
theorem tw_1040 : Cond.constantLong RJ13 168 (-9223372036854775808) ∈ gw_ := gw_in (tk_4 _ (List.mem_of_getElem? (i := 203) (by decide +kernel))) rfl
theorem tw_1041 : Cond.methodLink RJ13 98 yJ13_numberOfLeadingZeros_95d88 ∈ gw_ := gw_in (tk_4 _ (List.mem_of_getElem? (i := 204) (by decide +kernel))) rfl
theorem tw_1045 : Cond.code yX9_crowds cX9_crowds 6 (some .int) ∈ gw_ := gw_in (tk_4 _ (List.mem_of_getElem? (i := 208) (by decide +kernel))) rfl
theorem tw_1046 : Cond.methodLink RX9 292 yX0_notesHold ∈ gw_ := gw_in (tk_4 _ (List.mem_of_getElem? (i := 209) (by decide +kernel))) rfl
theorem tw_1047 : Cond.instanceMethod yX0_notesHold ∈ gw_ := gw_in (tk_4 _ (List.mem_of_getElem? (i := 210) (by decide +kernel))) rfl
theorem tw_1048 : Cond.selects RX0 yX0_notesHold yX0_notesHold ∈ gw_ := gw_in (tk_4 _ (List.mem_of_getElem? (i := 211) (by decide +kernel))) rfl
theorem tw_1049 : Cond.code yX0_notesHold cX0_notesHold 6 (some .boolean) ∈ gw_ := gw_in (tk_4 _ (List.mem_of_getElem? (i := 212) (by decide +kernel))) rfl
theorem tw_1050 : Cond.methodLink RX0 62 Lib.Math.max.name ∈ gw_ := gw_in (tk_4 _ (List.mem_of_getElem? (i := 213) (by decide +kernel))) rfl
theorem tw_1051 : Cond.methodLink RX0 68 yX7_passHour ∈ gw_ := gw_in (tk_4 _ (List.mem_of_getElem? (i := 214) (by decide +kernel))) rfl
theorem tw_1055 : Cond.code yX9_rests cX9_rests 8 (some .int) ∈ gw_ := gw_in (tk_4 _ (List.mem_of_getElem? (i := 218) (by decide +kernel))) rfl
theorem tw_1056 : Cond.methodLink RX9 296 yX9_fillGains ∈ gw_ := gw_in (tk_4 _ (List.mem_of_getElem? (i := 219) (by decide +kernel))) rfl
theorem tw_1058 : Cond.instanceMethod yX9_fillGains ∈ gw_ := gw_in (tk_4 _ (List.mem_of_getElem? (i := 221) (by decide +kernel))) rfl
theorem tw_1059 : Cond.code yX9_fillGains cX9_fillGains 9 none ∈ gw_ := gw_in (tk_4 _ (List.mem_of_getElem? (i := 222) (by decide +kernel))) rfl
theorem tw_1060 : Cond.methodLink RX9 341 Lib.Math.min.name ∈ gw_ := gw_in (tk_4 _ (List.mem_of_getElem? (i := 223) (by decide +kernel))) rfl
theorem tw_1061 : Cond.methodLink RX9 299 yX9_isRest ∈ gw_ := gw_in (tk_4 _ (List.mem_of_getElem? (i := 224) (by decide +kernel))) rfl
theorem tw_1063 : Cond.instanceMethod yX9_isRest ∈ gw_ := gw_in (tk_4 _ (List.mem_of_getElem? (i := 226) (by decide +kernel))) rfl
theorem tw_1064 : Cond.code yX9_isRest cX9_isRest 5 (some .boolean) ∈ gw_ := gw_in (tk_4 _ (List.mem_of_getElem? (i := 227) (by decide +kernel))) rfl
theorem tw_1068 : Cond.code yX9_pence cX9_pence 10 (some .int) ∈ gw_ := gw_in (tk_4 _ (List.mem_of_getElem? (i := 231) (by decide +kernel))) rfl
theorem tw_1072 : Cond.code yX9_note cX9_note 4 (some .int) ∈ gw_ := gw_in (tk_4 _ (List.mem_of_getElem? (i := 235) (by decide +kernel))) rfl
theorem tw_1073 : Cond.methodLink RX9 302 yX0_addNote ∈ gw_ := gw_in (tk_4 _ (List.mem_of_getElem? (i := 236) (by decide +kernel))) rfl
theorem tw_1074 : Cond.instanceMethod yX0_addNote ∈ gw_ := gw_in (tk_4 _ (List.mem_of_getElem? (i := 237) (by decide +kernel))) rfl
theorem tw_1075 : Cond.selects RX0 yX0_addNote yX0_addNote ∈ gw_ := gw_in (tk_4 _ (List.mem_of_getElem? (i := 238) (by decide +kernel))) rfl
theorem tw_1076 : Cond.code yX0_addNote cX0_addNote 4 (some .boolean) ∈ gw_ := gw_in (tk_4 _ (List.mem_of_getElem? (i := 239) (by decide +kernel))) rfl
theorem tw_1080 : Cond.code yX9_ruled cX9_ruled 5 (some .int) ∈ gw_ := gw_in (tk_5 _ (List.mem_of_getElem? (i := 3) (by decide +kernel))) rfl
theorem tw_1084 : Cond.code yX9_look cX9_look 8 (some .int) ∈ gw_ := gw_in (tk_5 _ (List.mem_of_getElem? (i := 7) (by decide +kernel))) rfl
theorem tw_1085 : Cond.methodLink RX9 310 yX9_fillBoxesBehind ∈ gw_ := gw_in (tk_5 _ (List.mem_of_getElem? (i := 8) (by decide +kernel))) rfl
theorem tw_1087 : Cond.instanceMethod yX9_fillBoxesBehind ∈ gw_ := gw_in (tk_5 _ (List.mem_of_getElem? (i := 10) (by decide +kernel))) rfl
theorem tw_1088 : Cond.code yX9_fillBoxesBehind cX9_fillBoxesBehind 4 (some .int) ∈ gw_ := gw_in (tk_5 _ (List.mem_of_getElem? (i := 11) (by decide +kernel))) rfl
theorem tw_1089 : Cond.methodLink RX9 346 arraycopyName ∈ gw_ := gw_in (tk_5 _ (List.mem_of_getElem? (i := 12) (by decide +kernel))) rfl
theorem tw_1090 : Cond.methodLink RX9 313 yX9_mostAlike ∈ gw_ := gw_in (tk_5 _ (List.mem_of_getElem? (i := 13) (by decide +kernel))) rfl
theorem tw_1092 : Cond.instanceMethod yX9_mostAlike ∈ gw_ := gw_in (tk_5 _ (List.mem_of_getElem? (i := 15) (by decide +kernel))) rfl
theorem tw_1093 : Cond.code yX9_mostAlike cX9_mostAlike 7 (some .int) ∈ gw_ := gw_in (tk_5 _ (List.mem_of_getElem? (i := 16) (by decide +kernel))) rfl
theorem tw_1094 : Cond.methodLink RX9 352 Lib.Math.max.name ∈ gw_ := gw_in (tk_5 _ (List.mem_of_getElem? (i := 17) (by decide +kernel))) rfl
theorem tw_1098 : Cond.code yX9_seed cX9_seed 3 (some .int) ∈ gw_ := gw_in (tk_5 _ (List.mem_of_getElem? (i := 21) (by decide +kernel))) rfl
theorem tw_1102 : Cond.code yX9_crowded cX9_crowded 10 (some .int) ∈ gw_ := gw_in (tk_5 _ (List.mem_of_getElem? (i := 25) (by decide +kernel))) rfl
theorem tw_1103 : Cond.methodLink RX9 319 yX7_drawVoter ∈ gw_ := gw_in (tk_5 _ (List.mem_of_getElem? (i := 26) (by decide +kernel))) rfl
theorem tw_1104 : Cond.instanceMethod yX7_drawVoter ∈ gw_ := gw_in (tk_5 _ (List.mem_of_getElem? (i := 27) (by decide +kernel))) rfl
theorem tw_1105 : Cond.selects RX7 yX7_drawVoter yX7_drawVoter ∈ gw_ := gw_in (tk_5 _ (List.mem_of_getElem? (i := 28) (by decide +kernel))) rfl
theorem tw_1106 : Cond.code yX7_drawVoter cX7_drawVoter 5 (some .int) ∈ gw_ := gw_in (tk_5 _ (List.mem_of_getElem? (i := 29) (by decide +kernel))) rfl
theorem tw_1107 : Cond.methodLink RX7 103 yX7_nextDrawn ∈ gw_ := gw_in (tk_5 _ (List.mem_of_getElem? (i := 30) (by decide +kernel))) rfl
theorem tw_1108 : Cond.static yX7_nextDrawn ∈ gw_ := gw_in (tk_5 _ (List.mem_of_getElem? (i := 31) (by decide +kernel))) rfl
theorem tw_1109 : Cond.code yX7_nextDrawn cX7_nextDrawn 1 (some .int) ∈ gw_ := gw_in (tk_5 _ (List.mem_of_getElem? (i := 32) (by decide +kernel))) rfl
theorem tw_1110 : Cond.constant RX7 106 (1103515245) ∈ gw_ := gw_in (tk_5 _ (List.mem_of_getElem? (i := 33) (by decide +kernel))) rfl
theorem tw_1111 : Cond.constant RX7 107 (2147483647) ∈ gw_ := gw_in (tk_5 _ (List.mem_of_getElem? (i := 34) (by decide +kernel))) rfl
theorem tw_1115 : Cond.code yX9_count cX9_count 3 (some .int) ∈ gw_ := gw_in (tk_5 _ (List.mem_of_getElem? (i := 38) (by decide +kernel))) rfl
theorem tw_1116 : Cond.methodLink RX9 325 yX7_serverBits ∈ gw_ := gw_in (tk_5 _ (List.mem_of_getElem? (i := 39) (by decide +kernel))) rfl
theorem tw_1120 : Cond.code yX9_image cX9_image 2 (some .int) ∈ gw_ := gw_in (tk_5 _ (List.mem_of_getElem? (i := 43) (by decide +kernel))) rfl
theorem tw_1121 : Cond.methodLink RX9 328 yX0_copyFrom ∈ gw_ := gw_in (tk_5 _ (List.mem_of_getElem? (i := 44) (by decide +kernel))) rfl
theorem tw_1122 : Cond.instanceMethod yX0_copyFrom ∈ gw_ := gw_in (tk_5 _ (List.mem_of_getElem? (i := 45) (by decide +kernel))) rfl
theorem tw_1123 : Cond.selects RX0 yX0_copyFrom yX0_copyFrom ∈ gw_ := gw_in (tk_5 _ (List.mem_of_getElem? (i := 46) (by decide +kernel))) rfl
theorem tw_1124 : Cond.code yX0_copyFrom cX0_copyFrom 2 none ∈ gw_ := gw_in (tk_5 _ (List.mem_of_getElem? (i := 47) (by decide +kernel))) rfl
theorem tw_1125 : Cond.methodLink RX0 39 yX5_copyFrom ∈ gw_ := gw_in (tk_5 _ (List.mem_of_getElem? (i := 48) (by decide +kernel))) rfl
theorem tw_1126 : Cond.methodLink RX0 43 yX7_copyFrom ∈ gw_ := gw_in (tk_5 _ (List.mem_of_getElem? (i := 49) (by decide +kernel))) rfl
theorem tw_1127 : Cond.methodLink RX0 46 arraycopyName ∈ gw_ := gw_in (tk_5 _ (List.mem_of_getElem? (i := 50) (by decide +kernel))) rfl
theorem tw_1131 : Cond.code yX9_back cX9_back 2 (some .int) ∈ gw_ := gw_in (tk_5 _ (List.mem_of_getElem? (i := 54) (by decide +kernel))) rfl
theorem tw_1136 : Cond.code yX10_init cX10_init 1 none ∈ gw_ := gw_in (tk_5 _ (List.mem_of_getElem? (i := 59) (by decide +kernel))) rfl
theorem tw_1137 : Cond.methodLink RX10 1 objectInit ∈ gw_ := gw_in (tk_5 _ (List.mem_of_getElem? (i := 60) (by decide +kernel))) rfl
theorem tw_1138 : Cond.fieldLink RX10 7 "BallotBookModel" "tape" "[B" ∈ gw_ := gw_in (tk_5 _ (List.mem_of_getElem? (i := 61) (by decide +kernel))) rfl
theorem tw_1139 : Cond.fieldLink RX10 83 "BallotBookModel" "taped" "I" ∈ gw_ := gw_in (tk_5 _ (List.mem_of_getElem? (i := 62) (by decide +kernel))) rfl
theorem tw_1140 : Cond.fieldLink RX10 257 "BallotBookModel" "rules" "I" ∈ gw_ := gw_in (tk_5 _ (List.mem_of_getElem? (i := 63) (by decide +kernel))) rfl
theorem tw_1141 : Cond.fieldLink RX10 13 "BallotBookModel" "sign" "[I" ∈ gw_ := gw_in (tk_5 _ (List.mem_of_getElem? (i := 64) (by decide +kernel))) rfl
theorem tw_1142 : Cond.fieldLink RX10 17 "BallotBookModel" "length" "[I" ∈ gw_ := gw_in (tk_5 _ (List.mem_of_getElem? (i := 65) (by decide +kernel))) rfl
theorem tw_1143 : Cond.fieldLink RX10 20 "BallotBookModel" "clause" "[I" ∈ gw_ := gw_in (tk_5 _ (List.mem_of_getElem? (i := 66) (by decide +kernel))) rfl
theorem tw_1144 : Cond.fieldLink RX10 23 "BallotBookModel" "clauses" "[I" ∈ gw_ := gw_in (tk_5 _ (List.mem_of_getElem? (i := 67) (by decide +kernel))) rfl
theorem tw_1145 : Cond.fieldLink RX10 26 "BallotBookModel" "read" "[I" ∈ gw_ := gw_in (tk_5 _ (List.mem_of_getElem? (i := 68) (by decide +kernel))) rfl
theorem tw_1146 : Cond.fieldLink RX10 93 "BallotBookModel" "next" "I" ∈ gw_ := gw_in (tk_5 _ (List.mem_of_getElem? (i := 69) (by decide +kernel))) rfl
theorem tw_1147 : Cond.fieldLink RX10 90 "BallotBookModel" "wrong" "I" ∈ gw_ := gw_in (tk_5 _ (List.mem_of_getElem? (i := 70) (by decide +kernel))) rfl
theorem tw_1148 : Cond.fieldLink RX10 118 "BallotBookModel" "number" "I" ∈ gw_ := gw_in (tk_5 _ (List.mem_of_getElem? (i := 71) (by decide +kernel))) rfl
theorem tw_1149 : Cond.fieldLink RX10 145 "BallotBookModel" "text" "I" ∈ gw_ := gw_in (tk_5 _ (List.mem_of_getElem? (i := 72) (by decide +kernel))) rfl
theorem tw_1150 : Cond.fieldLink RX10 148 "BallotBookModel" "made" "I" ∈ gw_ := gw_in (tk_5 _ (List.mem_of_getElem? (i := 73) (by decide +kernel))) rfl
theorem tw_1151 : Cond.fieldLink RX10 151 "BallotBookModel" "deep" "I" ∈ gw_ := gw_in (tk_5 _ (List.mem_of_getElem? (i := 74) (by decide +kernel))) rfl
theorem tw_1152 : Cond.fieldLink RX10 245 "BallotBookModel" "lines" "I" ∈ gw_ := gw_in (tk_5 _ (List.mem_of_getElem? (i := 75) (by decide +kernel))) rfl
theorem tw_1153 : Cond.fieldLink RX10 29 "BallotBookModel" "open" "[I" ∈ gw_ := gw_in (tk_5 _ (List.mem_of_getElem? (i := 76) (by decide +kernel))) rfl
theorem tw_1154 : Cond.fieldLink RX10 154 "BallotBookModel" "opened" "I" ∈ gw_ := gw_in (tk_5 _ (List.mem_of_getElem? (i := 77) (by decide +kernel))) rfl
theorem tw_1155 : Cond.fieldLink RX10 32 "BallotBookModel" "stack" "[J" ∈ gw_ := gw_in (tk_5 _ (List.mem_of_getElem? (i := 78) (by decide +kernel))) rfl
theorem tw_1156 : Cond.fieldLink RX10 269 "BallotBookModel" "top" "I" ∈ gw_ := gw_in (tk_5 _ (List.mem_of_getElem? (i := 79) (by decide +kernel))) rfl
theorem tw_1157 : Cond.fieldLink RX10 36 "BallotBookModel" "word" "[J" ∈ gw_ := gw_in (tk_5 _ (List.mem_of_getElem? (i := 80) (by decide +kernel))) rfl
theorem tw_1158 : Cond.fieldLink RX10 39 "BallotBookModel" "said" "[I" ∈ gw_ := gw_in (tk_5 _ (List.mem_of_getElem? (i := 81) (by decide +kernel))) rfl
theorem tw_1159 : Cond.fieldLink RX10 42 "BallotBookModel" "force" "I" ∈ gw_ := gw_in (tk_5 _ (List.mem_of_getElem? (i := 82) (by decide +kernel))) rfl
theorem tw_1160 : Cond.fieldLink RX10 479 "BallotBookModel" "x" "I" ∈ gw_ := gw_in (tk_5 _ (List.mem_of_getElem? (i := 83) (by decide +kernel))) rfl
theorem tw_1161 : Cond.fieldLink RX10 46 "BallotBookModel" "wasSaid" "[I" ∈ gw_ := gw_in (tk_5 _ (List.mem_of_getElem? (i := 84) (by decide +kernel))) rfl
theorem tw_1162 : Cond.fieldLink RX10 266 "BallotBookModel" "undone" "I" ∈ gw_ := gw_in (tk_5 _ (List.mem_of_getElem? (i := 85) (by decide +kernel))) rfl
theorem tw_1163 : Cond.fieldLink RX10 49 "BallotBookModel" "balanced" "[I" ∈ gw_ := gw_in (tk_5 _ (List.mem_of_getElem? (i := 86) (by decide +kernel))) rfl
theorem tw_1164 : Cond.fieldLink RX10 52 "BallotBookModel" "tens" "[I" ∈ gw_ := gw_in (tk_5 _ (List.mem_of_getElem? (i := 87) (by decide +kernel))) rfl
theorem tw_1165 : Cond.fieldLink RX10 55 "BallotBookModel" "tensBest" "[I" ∈ gw_ := gw_in (tk_5 _ (List.mem_of_getElem? (i := 88) (by decide +kernel))) rfl
theorem tw_1166 : Cond.fieldLink RX10 388 "BallotBookModel" "sure" "I" ∈ gw_ := gw_in (tk_5 _ (List.mem_of_getElem? (i := 89) (by decide +kernel))) rfl
theorem tw_1167 : Cond.fieldLink RX10 401 "BallotBookModel" "slipsLeast" "I" ∈ gw_ := gw_in (tk_5 _ (List.mem_of_getElem? (i := 90) (by decide +kernel))) rfl
theorem tw_1168 : Cond.fieldLink RX10 410 "BallotBookModel" "tensLeast" "I" ∈ gw_ := gw_in (tk_5 _ (List.mem_of_getElem? (i := 91) (by decide +kernel))) rfl
theorem tw_1169 : Cond.fieldLink RX10 413 "BallotBookModel" "movedLeast" "I" ∈ gw_ := gw_in (tk_5 _ (List.mem_of_getElem? (i := 92) (by decide +kernel))) rfl
theorem tw_1170 : Cond.fieldLink RX10 397 "BallotBookModel" "movedNow" "I" ∈ gw_ := gw_in (tk_5 _ (List.mem_of_getElem? (i := 93) (by decide +kernel))) rfl
theorem tw_1171 : Cond.fieldLink RX10 58 "BallotBookModel" "kept" "[I" ∈ gw_ := gw_in (tk_5 _ (List.mem_of_getElem? (i := 94) (by decide +kernel))) rfl
theorem tw_1172 : Cond.fieldLink RX10 61 "BallotBookModel" "hasBy" "[I" ∈ gw_ := gw_in (tk_5 _ (List.mem_of_getElem? (i := 95) (by decide +kernel))) rfl
theorem tw_1173 : Cond.fieldLink RX10 64 "BallotBookModel" "isFit" "[Z" ∈ gw_ := gw_in (tk_5 _ (List.mem_of_getElem? (i := 96) (by decide +kernel))) rfl
theorem tw_1174 : Cond.fieldLink RX10 68 "BallotBookModel" "boxThen" "[I" ∈ gw_ := gw_in (tk_5 _ (List.mem_of_getElem? (i := 97) (by decide +kernel))) rfl
theorem tw_1175 : Cond.fieldLink RX10 482 "BallotBookModel" "drawX" "J" ∈ gw_ := gw_in (tk_5 _ (List.mem_of_getElem? (i := 98) (by decide +kernel))) rfl
theorem tw_1176 : Cond.fieldLink RX10 71 "BallotBookModel" "images" "[I" ∈ gw_ := gw_in (tk_5 _ (List.mem_of_getElem? (i := 99) (by decide +kernel))) rfl
theorem tw_1177 : Cond.fieldLink RX10 74 "BallotBookModel" "imageForce" "[I" ∈ gw_ := gw_in (tk_5 _ (List.mem_of_getElem? (i := 100) (by decide +kernel))) rfl
theorem tw_1178 : Cond.fieldLink RX10 77 "BallotBookModel" "imageX" "[I" ∈ gw_ := gw_in (tk_5 _ (List.mem_of_getElem? (i := 101) (by decide +kernel))) rfl
theorem tw_1179 : Cond.fieldLink RX10 80 "BallotBookModel" "isMade" "[Z" ∈ gw_ := gw_in (tk_5 _ (List.mem_of_getElem? (i := 102) (by decide +kernel))) rfl
theorem tw_1265 : Cond.arrayClass .boolean ∈ gw_ := gw_in (tk_5 _ (List.mem_of_getElem? (i := 188) (by decide +kernel))) rfl
theorem tw_1269 : Cond.code yX10_feed cX10_feed 6 (some .int) ∈ gw_ := gw_in (tk_5 _ (List.mem_of_getElem? (i := 192) (by decide +kernel))) rfl
theorem tw_1270 : Cond.methodLink RX10 86 yX10_four ∈ gw_ := gw_in (tk_5 _ (List.mem_of_getElem? (i := 193) (by decide +kernel))) rfl
theorem tw_1272 : Cond.instanceMethod yX10_four ∈ gw_ := gw_in (tk_5 _ (List.mem_of_getElem? (i := 195) (by decide +kernel))) rfl
theorem tw_1273 : Cond.code yX10_four cX10_four 3 none ∈ gw_ := gw_in (tk_5 _ (List.mem_of_getElem? (i := 196) (by decide +kernel))) rfl
theorem tw_1277 : Cond.code yX10_end cX10_end 2 (some .int) ∈ gw_ := gw_in (tk_5 _ (List.mem_of_getElem? (i := 200) (by decide +kernel))) rfl
theorem tw_1281 : Cond.code yX10_rule cX10_rule 1 (some .int) ∈ gw_ := gw_in (tk_5 _ (List.mem_of_getElem? (i := 204) (by decide +kernel))) rfl
theorem tw_1282 : Cond.methodLink RX10 260 yX10_readsAll ∈ gw_ := gw_in (tk_5 _ (List.mem_of_getElem? (i := 205) (by decide +kernel))) rfl
theorem tw_1284 : Cond.instanceMethod yX10_readsAll ∈ gw_ := gw_in (tk_5 _ (List.mem_of_getElem? (i := 207) (by decide +kernel))) rfl
theorem tw_1285 : Cond.code yX10_readsAll cX10_readsAll 2 (some .boolean) ∈ gw_ := gw_in (tk_5 _ (List.mem_of_getElem? (i := 208) (by decide +kernel))) rfl
theorem tw_1286 : Cond.methodLink RX10 254 yX10_clauseHere ∈ gw_ := gw_in (tk_5 _ (List.mem_of_getElem? (i := 209) (by decide +kernel))) rfl
theorem tw_1288 : Cond.instanceMethod yX10_clauseHere ∈ gw_ := gw_in (tk_5 _ (List.mem_of_getElem? (i := 211) (by decide +kernel))) rfl
theorem tw_1289 : Cond.code yX10_clauseHere cX10_clauseHere 3 (some .boolean) ∈ gw_ := gw_in (tk_5 _ (List.mem_of_getElem? (i := 212) (by decide +kernel))) rfl
theorem tw_1290 : Cond.methodLink RX10 96 yX10_see ∈ gw_ := gw_in (tk_5 _ (List.mem_of_getElem? (i := 213) (by decide +kernel))) rfl
theorem tw_1292 : Cond.instanceMethod yX10_see ∈ gw_ := gw_in (tk_5 _ (List.mem_of_getElem? (i := 215) (by decide +kernel))) rfl
theorem tw_1293 : Cond.code yX10_see cX10_see 1 (some .int) ∈ gw_ := gw_in (tk_5 _ (List.mem_of_getElem? (i := 216) (by decide +kernel))) rfl
theorem tw_1294 : Cond.methodLink RX10 240 yX10_isElectionWord ∈ gw_ := gw_in (tk_5 _ (List.mem_of_getElem? (i := 217) (by decide +kernel))) rfl
theorem tw_1296 : Cond.instanceMethod yX10_isElectionWord ∈ gw_ := gw_in (tk_5 _ (List.mem_of_getElem? (i := 219) (by decide +kernel))) rfl
theorem tw_1297 : Cond.code yX10_isElectionWord cX10_isElectionWord 1 (some .boolean) ∈ gw_ := gw_in (tk_5 _ (List.mem_of_getElem? (i := 220) (by decide +kernel))) rfl
theorem tw_1298 : Cond.constantLong RX10 224 (123563799835251) ∈ gw_ := gw_in (tk_5 _ (List.mem_of_getElem? (i := 221) (by decide +kernel))) rfl
theorem tw_1299 : Cond.methodLink RX10 104 yX10_isWord ∈ gw_ := gw_in (tk_5 _ (List.mem_of_getElem? (i := 222) (by decide +kernel))) rfl
theorem tw_1301 : Cond.instanceMethod yX10_isWord ∈ gw_ := gw_in (tk_5 _ (List.mem_of_getElem? (i := 224) (by decide +kernel))) rfl
theorem tw_1302 : Cond.code yX10_isWord cX10_isWord 6 (some .boolean) ∈ gw_ := gw_in (tk_5 _ (List.mem_of_getElem? (i := 225) (by decide +kernel))) rfl
theorem tw_1303 : Cond.methodLink RX10 100 yX10_isLetter ∈ gw_ := gw_in (tk_5 _ (List.mem_of_getElem? (i := 226) (by decide +kernel))) rfl
theorem tw_1305 : Cond.instanceMethod yX10_isLetter ∈ gw_ := gw_in (tk_5 _ (List.mem_of_getElem? (i := 228) (by decide +kernel))) rfl
theorem tw_1306 : Cond.code yX10_isLetter cX10_isLetter 2 (some .boolean) ∈ gw_ := gw_in (tk_5 _ (List.mem_of_getElem? (i := 229) (by decide +kernel))) rfl
theorem tw_1307 : Cond.constantLong RX10 125 (32497584235442030) ∈ gw_ := gw_in (tk_5 _ (List.mem_of_getElem? (i := 230) (by decide +kernel))) rfl
theorem tw_1308 : Cond.constantLong RX10 232 (130221066252915) ∈ gw_ := gw_in (tk_5 _ (List.mem_of_getElem? (i := 231) (by decide +kernel))) rfl
theorem tw_1309 : Cond.constantLong RX10 133 (32493246134117732) ∈ gw_ := gw_in (tk_5 _ (List.mem_of_getElem? (i := 232) (by decide +kernel))) rfl
theorem tw_1310 : Cond.constantLong RX10 243 (495623239269) ∈ gw_ := gw_in (tk_5 _ (List.mem_of_getElem? (i := 233) (by decide +kernel))) rfl
theorem tw_1311 : Cond.methodLink RX10 114 yX10_fails ∈ gw_ := gw_in (tk_5 _ (List.mem_of_getElem? (i := 234) (by decide +kernel))) rfl
theorem tw_1313 : Cond.instanceMethod yX10_fails ∈ gw_ := gw_in (tk_5 _ (List.mem_of_getElem? (i := 236) (by decide +kernel))) rfl
theorem tw_1314 : Cond.code yX10_fails cX10_fails 3 (some .boolean) ∈ gw_ := gw_in (tk_5 _ (List.mem_of_getElem? (i := 237) (by decide +kernel))) rfl
theorem tw_1315 : Cond.methodLink RX10 248 yX10_electionLineHere ∈ gw_ := gw_in (tk_5 _ (List.mem_of_getElem? (i := 238) (by decide +kernel))) rfl
theorem tw_1317 : Cond.instanceMethod yX10_electionLineHere ∈ gw_ := gw_in (tk_6 _ (List.mem_of_getElem? (i := 0) (by decide +kernel))) rfl
theorem tw_1318 : Cond.code yX10_electionLineHere cX10_electionLineHere 2 (some .boolean) ∈ gw_ := gw_in (tk_6 _ (List.mem_of_getElem? (i := 1) (by decide +kernel))) rfl
theorem tw_1319 : Cond.methodLink RX10 226 yX10_isPapersHere ∈ gw_ := gw_in (tk_6 _ (List.mem_of_getElem? (i := 2) (by decide +kernel))) rfl
theorem tw_1321 : Cond.instanceMethod yX10_isPapersHere ∈ gw_ := gw_in (tk_6 _ (List.mem_of_getElem? (i := 4) (by decide +kernel))) rfl
theorem tw_1322 : Cond.code yX10_isPapersHere cX10_isPapersHere 3 (some .boolean) ∈ gw_ := gw_in (tk_6 _ (List.mem_of_getElem? (i := 5) (by decide +kernel))) rfl
theorem tw_1323 : Cond.methodLink RX10 108 yX10_passWord ∈ gw_ := gw_in (tk_6 _ (List.mem_of_getElem? (i := 6) (by decide +kernel))) rfl
theorem tw_1325 : Cond.instanceMethod yX10_passWord ∈ gw_ := gw_in (tk_6 _ (List.mem_of_getElem? (i := 8) (by decide +kernel))) rfl
theorem tw_1326 : Cond.code yX10_passWord cX10_passWord 1 none ∈ gw_ := gw_in (tk_6 _ (List.mem_of_getElem? (i := 9) (by decide +kernel))) rfl
theorem tw_1327 : Cond.methodLink RX10 217 yX10_cellHere ∈ gw_ := gw_in (tk_6 _ (List.mem_of_getElem? (i := 10) (by decide +kernel))) rfl
theorem tw_1329 : Cond.instanceMethod yX10_cellHere ∈ gw_ := gw_in (tk_6 _ (List.mem_of_getElem? (i := 12) (by decide +kernel))) rfl
theorem tw_1330 : Cond.code yX10_cellHere cX10_cellHere 4 (some .boolean) ∈ gw_ := gw_in (tk_6 _ (List.mem_of_getElem? (i := 13) (by decide +kernel))) rfl
theorem tw_1331 : Cond.methodLink RX10 166 yX10_numberHere ∈ gw_ := gw_in (tk_6 _ (List.mem_of_getElem? (i := 14) (by decide +kernel))) rfl
theorem tw_1333 : Cond.instanceMethod yX10_numberHere ∈ gw_ := gw_in (tk_6 _ (List.mem_of_getElem? (i := 16) (by decide +kernel))) rfl
theorem tw_1334 : Cond.code yX10_numberHere cX10_numberHere 5 (some .boolean) ∈ gw_ := gw_in (tk_6 _ (List.mem_of_getElem? (i := 17) (by decide +kernel))) rfl
theorem tw_1335 : Cond.methodLink RX10 111 yX10_isDigit ∈ gw_ := gw_in (tk_6 _ (List.mem_of_getElem? (i := 18) (by decide +kernel))) rfl
theorem tw_1337 : Cond.instanceMethod yX10_isDigit ∈ gw_ := gw_in (tk_6 _ (List.mem_of_getElem? (i := 20) (by decide +kernel))) rfl
theorem tw_1338 : Cond.code yX10_isDigit cX10_isDigit 2 (some .boolean) ∈ gw_ := gw_in (tk_6 _ (List.mem_of_getElem? (i := 21) (by decide +kernel))) rfl
theorem tw_1339 : Cond.methodLink RX10 121 yX10_in ∈ gw_ := gw_in (tk_6 _ (List.mem_of_getElem? (i := 22) (by decide +kernel))) rfl
theorem tw_1340 : Cond.static yX10_in ∈ gw_ := gw_in (tk_6 _ (List.mem_of_getElem? (i := 23) (by decide +kernel))) rfl
theorem tw_1341 : Cond.code yX10_in cX10_in 6 (some .boolean) ∈ gw_ := gw_in (tk_6 _ (List.mem_of_getElem? (i := 24) (by decide +kernel))) rfl
theorem tw_1342 : Cond.methodLink RX10 229 yX10_isStationHere ∈ gw_ := gw_in (tk_6 _ (List.mem_of_getElem? (i := 25) (by decide +kernel))) rfl
theorem tw_1344 : Cond.instanceMethod yX10_isStationHere ∈ gw_ := gw_in (tk_6 _ (List.mem_of_getElem? (i := 27) (by decide +kernel))) rfl
theorem tw_1345 : Cond.code yX10_isStationHere cX10_isStationHere 6 (some .boolean) ∈ gw_ := gw_in (tk_6 _ (List.mem_of_getElem? (i := 28) (by decide +kernel))) rfl
theorem tw_1346 : Cond.methodLink RX10 221 yX10_isFreeTold ∈ gw_ := gw_in (tk_6 _ (List.mem_of_getElem? (i := 29) (by decide +kernel))) rfl
theorem tw_1348 : Cond.instanceMethod yX10_isFreeTold ∈ gw_ := gw_in (tk_6 _ (List.mem_of_getElem? (i := 31) (by decide +kernel))) rfl
theorem tw_1349 : Cond.code yX10_isFreeTold cX10_isFreeTold 4 (some .boolean) ∈ gw_ := gw_in (tk_6 _ (List.mem_of_getElem? (i := 32) (by decide +kernel))) rfl
theorem tw_1350 : Cond.methodLink RX10 234 yX10_isVotersHere ∈ gw_ := gw_in (tk_6 _ (List.mem_of_getElem? (i := 33) (by decide +kernel))) rfl
theorem tw_1352 : Cond.instanceMethod yX10_isVotersHere ∈ gw_ := gw_in (tk_6 _ (List.mem_of_getElem? (i := 35) (by decide +kernel))) rfl
theorem tw_1353 : Cond.code yX10_isVotersHere cX10_isVotersHere 2 (some .boolean) ∈ gw_ := gw_in (tk_6 _ (List.mem_of_getElem? (i := 36) (by decide +kernel))) rfl
theorem tw_1354 : Cond.methodLink RX10 237 yX10_isSpoiledHere ∈ gw_ := gw_in (tk_6 _ (List.mem_of_getElem? (i := 37) (by decide +kernel))) rfl
theorem tw_1356 : Cond.instanceMethod yX10_isSpoiledHere ∈ gw_ := gw_in (tk_6 _ (List.mem_of_getElem? (i := 39) (by decide +kernel))) rfl
theorem tw_1357 : Cond.code yX10_isSpoiledHere cX10_isSpoiledHere 2 (some .boolean) ∈ gw_ := gw_in (tk_6 _ (List.mem_of_getElem? (i := 40) (by decide +kernel))) rfl
theorem tw_1358 : Cond.methodLink RX10 251 yX10_isServeHere ∈ gw_ := gw_in (tk_6 _ (List.mem_of_getElem? (i := 41) (by decide +kernel))) rfl
theorem tw_1360 : Cond.instanceMethod yX10_isServeHere ∈ gw_ := gw_in (tk_6 _ (List.mem_of_getElem? (i := 43) (by decide +kernel))) rfl
theorem tw_1361 : Cond.code yX10_isServeHere cX10_isServeHere 2 (some .boolean) ∈ gw_ := gw_in (tk_6 _ (List.mem_of_getElem? (i := 44) (by decide +kernel))) rfl
theorem tw_1362 : Cond.methodLink RX10 182 yX10_sum ∈ gw_ := gw_in (tk_6 _ (List.mem_of_getElem? (i := 45) (by decide +kernel))) rfl
theorem tw_1364 : Cond.instanceMethod yX10_sum ∈ gw_ := gw_in (tk_6 _ (List.mem_of_getElem? (i := 47) (by decide +kernel))) rfl
theorem tw_1365 : Cond.code yX10_sum cX10_sum 2 (some .boolean) ∈ gw_ := gw_in (tk_6 _ (List.mem_of_getElem? (i := 48) (by decide +kernel))) rfl
theorem tw_1366 : Cond.methodLink RX10 179 yX10_term ∈ gw_ := gw_in (tk_6 _ (List.mem_of_getElem? (i := 49) (by decide +kernel))) rfl
theorem tw_1368 : Cond.instanceMethod yX10_term ∈ gw_ := gw_in (tk_6 _ (List.mem_of_getElem? (i := 51) (by decide +kernel))) rfl
theorem tw_1369 : Cond.code yX10_term cX10_term 2 (some .boolean) ∈ gw_ := gw_in (tk_6 _ (List.mem_of_getElem? (i := 52) (by decide +kernel))) rfl
theorem tw_1370 : Cond.methodLink RX10 175 yX10_value ∈ gw_ := gw_in (tk_6 _ (List.mem_of_getElem? (i := 53) (by decide +kernel))) rfl
theorem tw_1372 : Cond.instanceMethod yX10_value ∈ gw_ := gw_in (tk_6 _ (List.mem_of_getElem? (i := 55) (by decide +kernel))) rfl
theorem tw_1373 : Cond.code yX10_value cX10_value 3 (some .boolean) ∈ gw_ := gw_in (tk_6 _ (List.mem_of_getElem? (i := 56) (by decide +kernel))) rfl
theorem tw_1374 : Cond.constant RX10 165 (99999) ∈ gw_ := gw_in (tk_6 _ (List.mem_of_getElem? (i := 57) (by decide +kernel))) rfl
theorem tw_1375 : Cond.methodLink RX10 169 yX10_makes ∈ gw_ := gw_in (tk_6 _ (List.mem_of_getElem? (i := 58) (by decide +kernel))) rfl
theorem tw_1377 : Cond.instanceMethod yX10_makes ∈ gw_ := gw_in (tk_6 _ (List.mem_of_getElem? (i := 60) (by decide +kernel))) rfl
theorem tw_1378 : Cond.code yX10_makes cX10_makes 2 (some .boolean) ∈ gw_ := gw_in (tk_6 _ (List.mem_of_getElem? (i := 61) (by decide +kernel))) rfl
theorem tw_1379 : Cond.methodLink RX10 161 yX10_puts ∈ gw_ := gw_in (tk_6 _ (List.mem_of_getElem? (i := 62) (by decide +kernel))) rfl
theorem tw_1381 : Cond.instanceMethod yX10_puts ∈ gw_ := gw_in (tk_6 _ (List.mem_of_getElem? (i := 64) (by decide +kernel))) rfl
theorem tw_1382 : Cond.code yX10_puts cX10_puts 3 none ∈ gw_ := gw_in (tk_6 _ (List.mem_of_getElem? (i := 65) (by decide +kernel))) rfl
theorem tw_1383 : Cond.methodLink RX10 172 yX10_wordHere ∈ gw_ := gw_in (tk_6 _ (List.mem_of_getElem? (i := 66) (by decide +kernel))) rfl
theorem tw_1385 : Cond.instanceMethod yX10_wordHere ∈ gw_ := gw_in (tk_6 _ (List.mem_of_getElem? (i := 68) (by decide +kernel))) rfl
theorem tw_1386 : Cond.code yX10_wordHere cX10_wordHere 1 (some .int) ∈ gw_ := gw_in (tk_6 _ (List.mem_of_getElem? (i := 69) (by decide +kernel))) rfl
theorem tw_1387 : Cond.constantLong RX10 127 (33602627781095015) ∈ gw_ := gw_in (tk_6 _ (List.mem_of_getElem? (i := 70) (by decide +kernel))) rfl
theorem tw_1388 : Cond.constantLong RX10 129 (495874696043) ∈ gw_ := gw_in (tk_6 _ (List.mem_of_getElem? (i := 71) (by decide +kernel))) rfl
theorem tw_1389 : Cond.constantLong RX10 131 (6451064) ∈ gw_ := gw_in (tk_6 _ (List.mem_of_getElem? (i := 72) (by decide +kernel))) rfl
theorem tw_1390 : Cond.constantLong RX10 135 (1852143732) ∈ gw_ := gw_in (tk_6 _ (List.mem_of_getElem? (i := 73) (by decide +kernel))) rfl
theorem tw_1391 : Cond.constantLong RX10 137 (1920298611) ∈ gw_ := gw_in (tk_6 _ (List.mem_of_getElem? (i := 74) (by decide +kernel))) rfl
theorem tw_1392 : Cond.constantLong RX10 139 (427121669988) ∈ gw_ := gw_in (tk_6 _ (List.mem_of_getElem? (i := 75) (by decide +kernel))) rfl
theorem tw_1393 : Cond.constantLong RX10 141 (1818584692) ∈ gw_ := gw_in (tk_6 _ (List.mem_of_getElem? (i := 76) (by decide +kernel))) rfl
theorem tw_1394 : Cond.constantLong RX10 143 (1752135026) ∈ gw_ := gw_in (tk_6 _ (List.mem_of_getElem? (i := 77) (by decide +kernel))) rfl
theorem tw_1395 : Cond.constantLong RX10 209 (26982) ∈ gw_ := gw_in (tk_6 _ (List.mem_of_getElem? (i := 78) (by decide +kernel))) rfl
theorem tw_1396 : Cond.methodLink RX10 211 yX10_takesWord ∈ gw_ := gw_in (tk_6 _ (List.mem_of_getElem? (i := 79) (by decide +kernel))) rfl
theorem tw_1398 : Cond.instanceMethod yX10_takesWord ∈ gw_ := gw_in (tk_6 _ (List.mem_of_getElem? (i := 81) (by decide +kernel))) rfl
theorem tw_1399 : Cond.code yX10_takesWord cX10_takesWord 3 (some .boolean) ∈ gw_ := gw_in (tk_6 _ (List.mem_of_getElem? (i := 82) (by decide +kernel))) rfl
theorem tw_1400 : Cond.methodLink RX10 214 yX10_tested ∈ gw_ := gw_in (tk_6 _ (List.mem_of_getElem? (i := 83) (by decide +kernel))) rfl
theorem tw_1402 : Cond.instanceMethod yX10_tested ∈ gw_ := gw_in (tk_6 _ (List.mem_of_getElem? (i := 85) (by decide +kernel))) rfl
theorem tw_1403 : Cond.code yX10_tested cX10_tested 3 (some .boolean) ∈ gw_ := gw_in (tk_6 _ (List.mem_of_getElem? (i := 86) (by decide +kernel))) rfl
theorem tw_1404 : Cond.methodLink RX10 199 yX10_fact ∈ gw_ := gw_in (tk_6 _ (List.mem_of_getElem? (i := 87) (by decide +kernel))) rfl
theorem tw_1406 : Cond.instanceMethod yX10_fact ∈ gw_ := gw_in (tk_6 _ (List.mem_of_getElem? (i := 89) (by decide +kernel))) rfl
theorem tw_1407 : Cond.code yX10_fact cX10_fact 3 (some .boolean) ∈ gw_ := gw_in (tk_6 _ (List.mem_of_getElem? (i := 90) (by decide +kernel))) rfl
theorem tw_1408 : Cond.constantLong RX10 185 (7237492) ∈ gw_ := gw_in (tk_6 _ (List.mem_of_getElem? (i := 91) (by decide +kernel))) rfl
theorem tw_1409 : Cond.methodLink RX10 187 yX10_opens ∈ gw_ := gw_in (tk_6 _ (List.mem_of_getElem? (i := 92) (by decide +kernel))) rfl
theorem tw_1411 : Cond.instanceMethod yX10_opens ∈ gw_ := gw_in (tk_6 _ (List.mem_of_getElem? (i := 94) (by decide +kernel))) rfl
theorem tw_1412 : Cond.code yX10_opens cX10_opens 2 (some .boolean) ∈ gw_ := gw_in (tk_6 _ (List.mem_of_getElem? (i := 95) (by decide +kernel))) rfl
theorem tw_1413 : Cond.methodLink RX10 190 yX10_compare ∈ gw_ := gw_in (tk_6 _ (List.mem_of_getElem? (i := 96) (by decide +kernel))) rfl
theorem tw_1415 : Cond.instanceMethod yX10_compare ∈ gw_ := gw_in (tk_6 _ (List.mem_of_getElem? (i := 98) (by decide +kernel))) rfl
theorem tw_1416 : Cond.code yX10_compare cX10_compare 5 (some .boolean) ∈ gw_ := gw_in (tk_6 _ (List.mem_of_getElem? (i := 99) (by decide +kernel))) rfl
theorem tw_1417 : Cond.methodLink RX10 202 yX10_closes ∈ gw_ := gw_in (tk_6 _ (List.mem_of_getElem? (i := 100) (by decide +kernel))) rfl
theorem tw_1419 : Cond.instanceMethod yX10_closes ∈ gw_ := gw_in (tk_6 _ (List.mem_of_getElem? (i := 102) (by decide +kernel))) rfl
theorem tw_1420 : Cond.code yX10_closes cX10_closes 1 none ∈ gw_ := gw_in (tk_6 _ (List.mem_of_getElem? (i := 103) (by decide +kernel))) rfl
theorem tw_1421 : Cond.methodLink RX10 193 yX10_layDown ∈ gw_ := gw_in (tk_6 _ (List.mem_of_getElem? (i := 104) (by decide +kernel))) rfl
theorem tw_1423 : Cond.instanceMethod yX10_layDown ∈ gw_ := gw_in (tk_6 _ (List.mem_of_getElem? (i := 106) (by decide +kernel))) rfl
theorem tw_1424 : Cond.code yX10_layDown cX10_layDown 2 none ∈ gw_ := gw_in (tk_6 _ (List.mem_of_getElem? (i := 107) (by decide +kernel))) rfl
theorem tw_1425 : Cond.methodLink RX10 157 yX10_strength ∈ gw_ := gw_in (tk_6 _ (List.mem_of_getElem? (i := 108) (by decide +kernel))) rfl
theorem tw_1426 : Cond.static yX10_strength ∈ gw_ := gw_in (tk_6 _ (List.mem_of_getElem? (i := 109) (by decide +kernel))) rfl
theorem tw_1427 : Cond.code yX10_strength cX10_strength 1 (some .int) ∈ gw_ := gw_in (tk_6 _ (List.mem_of_getElem? (i := 110) (by decide +kernel))) rfl
theorem tw_1428 : Cond.methodLink RX10 196 yX10_isInside ∈ gw_ := gw_in (tk_6 _ (List.mem_of_getElem? (i := 111) (by decide +kernel))) rfl
theorem tw_1430 : Cond.instanceMethod yX10_isInside ∈ gw_ := gw_in (tk_6 _ (List.mem_of_getElem? (i := 113) (by decide +kernel))) rfl
theorem tw_1431 : Cond.code yX10_isInside cX10_isInside 2 (some .boolean) ∈ gw_ := gw_in (tk_6 _ (List.mem_of_getElem? (i := 114) (by decide +kernel))) rfl
theorem tw_1432 : Cond.constantLong RX10 205 (6385252) ∈ gw_ := gw_in (tk_6 _ (List.mem_of_getElem? (i := 115) (by decide +kernel))) rfl
theorem tw_1433 : Cond.constantLong RX10 207 (28530) ∈ gw_ := gw_in (tk_6 _ (List.mem_of_getElem? (i := 116) (by decide +kernel))) rfl
theorem tw_1437 : Cond.code yX10_election cX10_election 2 (some .int) ∈ gw_ := gw_in (tk_6 _ (List.mem_of_getElem? (i := 120) (by decide +kernel))) rfl
theorem tw_1438 : Cond.methodLink RX10 263 yX10_begins ∈ gw_ := gw_in (tk_6 _ (List.mem_of_getElem? (i := 121) (by decide +kernel))) rfl
theorem tw_1440 : Cond.instanceMethod yX10_begins ∈ gw_ := gw_in (tk_6 _ (List.mem_of_getElem? (i := 123) (by decide +kernel))) rfl
theorem tw_1441 : Cond.code yX10_begins cX10_begins 3 none ∈ gw_ := gw_in (tk_6 _ (List.mem_of_getElem? (i := 124) (by decide +kernel))) rfl
theorem tw_1442 : Cond.methodLink RX10 300 yX10_laysIn ∈ gw_ := gw_in (tk_6 _ (List.mem_of_getElem? (i := 125) (by decide +kernel))) rfl
theorem tw_1444 : Cond.instanceMethod yX10_laysIn ∈ gw_ := gw_in (tk_6 _ (List.mem_of_getElem? (i := 127) (by decide +kernel))) rfl
theorem tw_1445 : Cond.code yX10_laysIn cX10_laysIn 4 none ∈ gw_ := gw_in (tk_6 _ (List.mem_of_getElem? (i := 128) (by decide +kernel))) rfl
theorem tw_1449 : Cond.code yX10_force cX10_force 3 (some .int) ∈ gw_ := gw_in (tk_6 _ (List.mem_of_getElem? (i := 132) (by decide +kernel))) rfl
theorem tw_1450 : Cond.methodLink RX10 304 yX10_isRule ∈ gw_ := gw_in (tk_6 _ (List.mem_of_getElem? (i := 133) (by decide +kernel))) rfl
theorem tw_1452 : Cond.instanceMethod yX10_isRule ∈ gw_ := gw_in (tk_6 _ (List.mem_of_getElem? (i := 135) (by decide +kernel))) rfl
theorem tw_1453 : Cond.code yX10_isRule cX10_isRule 2 (some .boolean) ∈ gw_ := gw_in (tk_6 _ (List.mem_of_getElem? (i := 136) (by decide +kernel))) rfl
theorem tw_1457 : Cond.code yX10_station cX10_station 3 (some .int) ∈ gw_ := gw_in (tk_6 _ (List.mem_of_getElem? (i := 140) (by decide +kernel))) rfl
theorem tw_1458 : Cond.methodLink RX10 307 yX10_isStation ∈ gw_ := gw_in (tk_6 _ (List.mem_of_getElem? (i := 141) (by decide +kernel))) rfl
theorem tw_1460 : Cond.instanceMethod yX10_isStation ∈ gw_ := gw_in (tk_6 _ (List.mem_of_getElem? (i := 143) (by decide +kernel))) rfl
theorem tw_1461 : Cond.code yX10_isStation cX10_isStation 2 (some .boolean) ∈ gw_ := gw_in (tk_6 _ (List.mem_of_getElem? (i := 144) (by decide +kernel))) rfl
theorem tw_1462 : Cond.methodLink RX10 290 yX10_manyIn ∈ gw_ := gw_in (tk_6 _ (List.mem_of_getElem? (i := 145) (by decide +kernel))) rfl
theorem tw_1464 : Cond.instanceMethod yX10_manyIn ∈ gw_ := gw_in (tk_6 _ (List.mem_of_getElem? (i := 147) (by decide +kernel))) rfl
theorem tw_1465 : Cond.code yX10_manyIn cX10_manyIn 5 (some .int) ∈ gw_ := gw_in (tk_6 _ (List.mem_of_getElem? (i := 148) (by decide +kernel))) rfl
theorem tw_1466 : Cond.methodLink RX10 287 yX10_isIn ∈ gw_ := gw_in (tk_6 _ (List.mem_of_getElem? (i := 149) (by decide +kernel))) rfl
theorem tw_1468 : Cond.instanceMethod yX10_isIn ∈ gw_ := gw_in (tk_6 _ (List.mem_of_getElem? (i := 151) (by decide +kernel))) rfl
theorem tw_1469 : Cond.code yX10_isIn cX10_isIn 4 (some .boolean) ∈ gw_ := gw_in (tk_6 _ (List.mem_of_getElem? (i := 152) (by decide +kernel))) rfl
theorem tw_1470 : Cond.methodLink RX10 284 yX10_isPaper ∈ gw_ := gw_in (tk_6 _ (List.mem_of_getElem? (i := 153) (by decide +kernel))) rfl
theorem tw_1472 : Cond.instanceMethod yX10_isPaper ∈ gw_ := gw_in (tk_6 _ (List.mem_of_getElem? (i := 155) (by decide +kernel))) rfl
theorem tw_1473 : Cond.code yX10_isPaper cX10_isPaper 2 (some .boolean) ∈ gw_ := gw_in (tk_6 _ (List.mem_of_getElem? (i := 156) (by decide +kernel))) rfl
theorem tw_1474 : Cond.methodLink RX10 310 yX10_hadBy ∈ gw_ := gw_in (tk_6 _ (List.mem_of_getElem? (i := 157) (by decide +kernel))) rfl
theorem tw_1476 : Cond.instanceMethod yX10_hadBy ∈ gw_ := gw_in (tk_6 _ (List.mem_of_getElem? (i := 159) (by decide +kernel))) rfl
theorem tw_1477 : Cond.code yX10_hadBy cX10_hadBy 4 (some .int) ∈ gw_ := gw_in (tk_6 _ (List.mem_of_getElem? (i := 160) (by decide +kernel))) rfl
theorem tw_1481 : Cond.code yX10_paper cX10_paper 3 (some .int) ∈ gw_ := gw_in (tk_6 _ (List.mem_of_getElem? (i := 164) (by decide +kernel))) rfl
theorem tw_1482 : Cond.constantLong RX10 313 (2) ∈ gw_ := gw_in (tk_6 _ (List.mem_of_getElem? (i := 165) (by decide +kernel))) rfl
theorem tw_1483 : Cond.methodLink RX10 294 yX10_aheadOf ∈ gw_ := gw_in (tk_6 _ (List.mem_of_getElem? (i := 166) (by decide +kernel))) rfl
theorem tw_1485 : Cond.instanceMethod yX10_aheadOf ∈ gw_ := gw_in (tk_6 _ (List.mem_of_getElem? (i := 168) (by decide +kernel))) rfl
theorem tw_1486 : Cond.code yX10_aheadOf cX10_aheadOf 4 (some .int) ∈ gw_ := gw_in (tk_6 _ (List.mem_of_getElem? (i := 169) (by decide +kernel))) rfl
theorem tw_1490 : Cond.code yX10_row cX10_row 4 (some .int) ∈ gw_ := gw_in (tk_6 _ (List.mem_of_getElem? (i := 173) (by decide +kernel))) rfl
theorem tw_1491 : Cond.methodLink RX10 315 yX10_atPlace ∈ gw_ := gw_in (tk_6 _ (List.mem_of_getElem? (i := 174) (by decide +kernel))) rfl
theorem tw_1493 : Cond.instanceMethod yX10_atPlace ∈ gw_ := gw_in (tk_6 _ (List.mem_of_getElem? (i := 176) (by decide +kernel))) rfl
theorem tw_1494 : Cond.code yX10_atPlace cX10_atPlace 5 (some .int) ∈ gw_ := gw_in (tk_6 _ (List.mem_of_getElem? (i := 177) (by decide +kernel))) rfl
theorem tw_1498 : Cond.code yX10_runs cX10_runs 7 (some .int) ∈ gw_ := gw_in (tk_6 _ (List.mem_of_getElem? (i := 181) (by decide +kernel))) rfl
theorem tw_1499 : Cond.methodLink RX10 319 yX10_runsOf ∈ gw_ := gw_in (tk_6 _ (List.mem_of_getElem? (i := 182) (by decide +kernel))) rfl
theorem tw_1501 : Cond.instanceMethod yX10_runsOf ∈ gw_ := gw_in (tk_6 _ (List.mem_of_getElem? (i := 184) (by decide +kernel))) rfl
theorem tw_1502 : Cond.code yX10_runsOf cX10_runsOf 4 (some .int) ∈ gw_ := gw_in (tk_6 _ (List.mem_of_getElem? (i := 185) (by decide +kernel))) rfl
theorem tw_1503 : Cond.methodLink RX10 297 yX10_isFirstOfRun ∈ gw_ := gw_in (tk_6 _ (List.mem_of_getElem? (i := 186) (by decide +kernel))) rfl
theorem tw_1505 : Cond.instanceMethod yX10_isFirstOfRun ∈ gw_ := gw_in (tk_6 _ (List.mem_of_getElem? (i := 188) (by decide +kernel))) rfl
theorem tw_1506 : Cond.code yX10_isFirstOfRun cX10_isFirstOfRun 3 (some .boolean) ∈ gw_ := gw_in (tk_6 _ (List.mem_of_getElem? (i := 189) (by decide +kernel))) rfl
theorem tw_1510 : Cond.code yX10_moved cX10_moved 3 (some .int) ∈ gw_ := gw_in (tk_6 _ (List.mem_of_getElem? (i := 193) (by decide +kernel))) rfl
theorem tw_1514 : Cond.code yX10_told cX10_told 3 (some .int) ∈ gw_ := gw_in (tk_6 _ (List.mem_of_getElem? (i := 197) (by decide +kernel))) rfl
theorem tw_1518 : Cond.code yX10_undo cX10_undo 2 (some .int) ∈ gw_ := gw_in (tk_6 _ (List.mem_of_getElem? (i := 201) (by decide +kernel))) rfl
theorem tw_1522 : Cond.code yX10_hour cX10_hour 2 (some .int) ∈ gw_ := gw_in (tk_6 _ (List.mem_of_getElem? (i := 205) (by decide +kernel))) rfl
theorem tw_1523 : Cond.methodLink RX10 354 yX10_isElection ∈ gw_ := gw_in (tk_6 _ (List.mem_of_getElem? (i := 206) (by decide +kernel))) rfl
theorem tw_1525 : Cond.instanceMethod yX10_isElection ∈ gw_ := gw_in (tk_6 _ (List.mem_of_getElem? (i := 208) (by decide +kernel))) rfl
theorem tw_1526 : Cond.code yX10_isElection cX10_isElection 1 (some .boolean) ∈ gw_ := gw_in (tk_6 _ (List.mem_of_getElem? (i := 209) (by decide +kernel))) rfl
theorem tw_1527 : Cond.methodLink RX10 357 yX10_keepsAct ∈ gw_ := gw_in (tk_6 _ (List.mem_of_getElem? (i := 210) (by decide +kernel))) rfl
theorem tw_1529 : Cond.instanceMethod yX10_keepsAct ∈ gw_ := gw_in (tk_6 _ (List.mem_of_getElem? (i := 212) (by decide +kernel))) rfl
theorem tw_1530 : Cond.code yX10_keepsAct cX10_keepsAct 2 none ∈ gw_ := gw_in (tk_6 _ (List.mem_of_getElem? (i := 213) (by decide +kernel))) rfl
theorem tw_1531 : Cond.methodLink RX10 351 yX10_passes ∈ gw_ := gw_in (tk_6 _ (List.mem_of_getElem? (i := 214) (by decide +kernel))) rfl
theorem tw_1533 : Cond.instanceMethod yX10_passes ∈ gw_ := gw_in (tk_6 _ (List.mem_of_getElem? (i := 216) (by decide +kernel))) rfl
theorem tw_1534 : Cond.code yX10_passes cX10_passes 2 (some .int) ∈ gw_ := gw_in (tk_6 _ (List.mem_of_getElem? (i := 217) (by decide +kernel))) rfl
theorem tw_1535 : Cond.methodLink RX10 345 yX10_choice ∈ gw_ := gw_in (tk_6 _ (List.mem_of_getElem? (i := 218) (by decide +kernel))) rfl
theorem tw_1537 : Cond.instanceMethod yX10_choice ∈ gw_ := gw_in (tk_6 _ (List.mem_of_getElem? (i := 220) (by decide +kernel))) rfl
theorem tw_1538 : Cond.code yX10_choice cX10_choice 7 (some .int) ∈ gw_ := gw_in (tk_6 _ (List.mem_of_getElem? (i := 221) (by decide +kernel))) rfl
theorem tw_1539 : Cond.methodLink RX10 339 yX10_canServe ∈ gw_ := gw_in (tk_6 _ (List.mem_of_getElem? (i := 222) (by decide +kernel))) rfl
theorem tw_1541 : Cond.instanceMethod yX10_canServe ∈ gw_ := gw_in (tk_6 _ (List.mem_of_getElem? (i := 224) (by decide +kernel))) rfl
theorem tw_1542 : Cond.code yX10_canServe cX10_canServe 2 (some .boolean) ∈ gw_ := gw_in (tk_6 _ (List.mem_of_getElem? (i := 225) (by decide +kernel))) rfl
theorem tw_1543 : Cond.methodLink RX10 322 yX10_leastOf ∈ gw_ := gw_in (tk_6 _ (List.mem_of_getElem? (i := 226) (by decide +kernel))) rfl
theorem tw_1545 : Cond.instanceMethod yX10_leastOf ∈ gw_ := gw_in (tk_6 _ (List.mem_of_getElem? (i := 228) (by decide +kernel))) rfl
theorem tw_1546 : Cond.code yX10_leastOf cX10_leastOf 3 (some .int) ∈ gw_ := gw_in (tk_6 _ (List.mem_of_getElem? (i := 229) (by decide +kernel))) rfl
theorem tw_1547 : Cond.methodLink RX10 342 yX10_sumOf ∈ gw_ := gw_in (tk_6 _ (List.mem_of_getElem? (i := 230) (by decide +kernel))) rfl
theorem tw_1549 : Cond.instanceMethod yX10_sumOf ∈ gw_ := gw_in (tk_6 _ (List.mem_of_getElem? (i := 232) (by decide +kernel))) rfl
theorem tw_1550 : Cond.code yX10_sumOf cX10_sumOf 3 (some .long) ∈ gw_ := gw_in (tk_6 _ (List.mem_of_getElem? (i := 233) (by decide +kernel))) rfl
theorem tw_1551 : Cond.methodLink RX10 329 yX10_waitAll ∈ gw_ := gw_in (tk_6 _ (List.mem_of_getElem? (i := 234) (by decide +kernel))) rfl
theorem tw_1553 : Cond.instanceMethod yX10_waitAll ∈ gw_ := gw_in (tk_6 _ (List.mem_of_getElem? (i := 236) (by decide +kernel))) rfl
theorem tw_1554 : Cond.code yX10_waitAll cX10_waitAll 3 (some .int) ∈ gw_ := gw_in (tk_6 _ (List.mem_of_getElem? (i := 237) (by decide +kernel))) rfl
theorem tw_1555 : Cond.methodLink RX10 332 yX10_allIn ∈ gw_ := gw_in (tk_6 _ (List.mem_of_getElem? (i := 238) (by decide +kernel))) rfl
theorem tw_1557 : Cond.instanceMethod yX10_allIn ∈ gw_ := gw_in (tk_7 _ (List.mem_of_getElem? (i := 0) (by decide +kernel))) rfl
theorem tw_1558 : Cond.code yX10_allIn cX10_allIn 4 (some .int) ∈ gw_ := gw_in (tk_7 _ (List.mem_of_getElem? (i := 1) (by decide +kernel))) rfl
theorem tw_1559 : Cond.methodLink RX10 335 yX10_summedBy ∈ gw_ := gw_in (tk_7 _ (List.mem_of_getElem? (i := 2) (by decide +kernel))) rfl
theorem tw_1561 : Cond.instanceMethod yX10_summedBy ∈ gw_ := gw_in (tk_7 _ (List.mem_of_getElem? (i := 4) (by decide +kernel))) rfl
theorem tw_1562 : Cond.code yX10_summedBy cX10_summedBy 4 (some .long) ∈ gw_ := gw_in (tk_7 _ (List.mem_of_getElem? (i := 5) (by decide +kernel))) rfl
theorem tw_1563 : Cond.methodLink RX10 325 yX10_reckons ∈ gw_ := gw_in (tk_7 _ (List.mem_of_getElem? (i := 6) (by decide +kernel))) rfl
theorem tw_1565 : Cond.instanceMethod yX10_reckons ∈ gw_ := gw_in (tk_7 _ (List.mem_of_getElem? (i := 8) (by decide +kernel))) rfl
theorem tw_1566 : Cond.code yX10_reckons cX10_reckons 11 (some .long) ∈ gw_ := gw_in (tk_7 _ (List.mem_of_getElem? (i := 9) (by decide +kernel))) rfl
theorem tw_1567 : Cond.methodLink RX10 272 yX10_push ∈ gw_ := gw_in (tk_7 _ (List.mem_of_getElem? (i := 10) (by decide +kernel))) rfl
theorem tw_1569 : Cond.instanceMethod yX10_push ∈ gw_ := gw_in (tk_7 _ (List.mem_of_getElem? (i := 12) (by decide +kernel))) rfl
theorem tw_1570 : Cond.code yX10_push cX10_push 3 none ∈ gw_ := gw_in (tk_7 _ (List.mem_of_getElem? (i := 13) (by decide +kernel))) rfl
theorem tw_1571 : Cond.methodLink RX10 276 yX10_pop ∈ gw_ := gw_in (tk_7 _ (List.mem_of_getElem? (i := 14) (by decide +kernel))) rfl
theorem tw_1573 : Cond.instanceMethod yX10_pop ∈ gw_ := gw_in (tk_7 _ (List.mem_of_getElem? (i := 16) (by decide +kernel))) rfl
theorem tw_1574 : Cond.code yX10_pop cX10_pop 1 (some .long) ∈ gw_ := gw_in (tk_7 _ (List.mem_of_getElem? (i := 17) (by decide +kernel))) rfl
theorem tw_1575 : Cond.methodLink RX10 280 yX10_one ∈ gw_ := gw_in (tk_7 _ (List.mem_of_getElem? (i := 18) (by decide +kernel))) rfl
theorem tw_1576 : Cond.static yX10_one ∈ gw_ := gw_in (tk_7 _ (List.mem_of_getElem? (i := 19) (by decide +kernel))) rfl
theorem tw_1577 : Cond.code yX10_one cX10_one 5 (some .long) ∈ gw_ := gw_in (tk_7 _ (List.mem_of_getElem? (i := 20) (by decide +kernel))) rfl
theorem tw_1578 : Cond.methodLink RX10 348 yX10_serves ∈ gw_ := gw_in (tk_7 _ (List.mem_of_getElem? (i := 21) (by decide +kernel))) rfl
theorem tw_1580 : Cond.instanceMethod yX10_serves ∈ gw_ := gw_in (tk_7 _ (List.mem_of_getElem? (i := 23) (by decide +kernel))) rfl
theorem tw_1581 : Cond.code yX10_serves cX10_serves 3 none ∈ gw_ := gw_in (tk_7 _ (List.mem_of_getElem? (i := 24) (by decide +kernel))) rfl
theorem tw_1585 : Cond.code yX10_move cX10_move 6 (some .int) ∈ gw_ := gw_in (tk_7 _ (List.mem_of_getElem? (i := 28) (by decide +kernel))) rfl
theorem tw_1586 : Cond.methodLink RX10 362 yX10_areUnlike ∈ gw_ := gw_in (tk_7 _ (List.mem_of_getElem? (i := 29) (by decide +kernel))) rfl
theorem tw_1588 : Cond.instanceMethod yX10_areUnlike ∈ gw_ := gw_in (tk_7 _ (List.mem_of_getElem? (i := 31) (by decide +kernel))) rfl
theorem tw_1589 : Cond.code yX10_areUnlike cX10_areUnlike 4 (some .boolean) ∈ gw_ := gw_in (tk_7 _ (List.mem_of_getElem? (i := 32) (by decide +kernel))) rfl
theorem tw_1590 : Cond.constantLong RX10 360 (9) ∈ gw_ := gw_in (tk_7 _ (List.mem_of_getElem? (i := 33) (by decide +kernel))) rfl
theorem tw_1591 : Cond.methodLink RX10 365 yX10_comes ∈ gw_ := gw_in (tk_7 _ (List.mem_of_getElem? (i := 34) (by decide +kernel))) rfl
theorem tw_1593 : Cond.instanceMethod yX10_comes ∈ gw_ := gw_in (tk_7 _ (List.mem_of_getElem? (i := 36) (by decide +kernel))) rfl
theorem tw_1594 : Cond.code yX10_comes cX10_comes 3 none ∈ gw_ := gw_in (tk_7 _ (List.mem_of_getElem? (i := 37) (by decide +kernel))) rfl
theorem tw_1598 : Cond.code yX10_lend cX10_lend 4 (some .int) ∈ gw_ := gw_in (tk_7 _ (List.mem_of_getElem? (i := 41) (by decide +kernel))) rfl
theorem tw_1599 : Cond.methodLink RX10 371 yX10_lends ∈ gw_ := gw_in (tk_7 _ (List.mem_of_getElem? (i := 42) (by decide +kernel))) rfl
theorem tw_1601 : Cond.instanceMethod yX10_lends ∈ gw_ := gw_in (tk_7 _ (List.mem_of_getElem? (i := 44) (by decide +kernel))) rfl
theorem tw_1602 : Cond.code yX10_lends cX10_lends 6 (some .int) ∈ gw_ := gw_in (tk_7 _ (List.mem_of_getElem? (i := 45) (by decide +kernel))) rfl
theorem tw_1603 : Cond.methodLink RX10 368 yX10_greatestOf ∈ gw_ := gw_in (tk_7 _ (List.mem_of_getElem? (i := 46) (by decide +kernel))) rfl
theorem tw_1605 : Cond.instanceMethod yX10_greatestOf ∈ gw_ := gw_in (tk_7 _ (List.mem_of_getElem? (i := 48) (by decide +kernel))) rfl
theorem tw_1606 : Cond.code yX10_greatestOf cX10_greatestOf 3 (some .int) ∈ gw_ := gw_in (tk_7 _ (List.mem_of_getElem? (i := 49) (by decide +kernel))) rfl
theorem tw_1610 : Cond.code yX10_spoil cX10_spoil 2 (some .int) ∈ gw_ := gw_in (tk_7 _ (List.mem_of_getElem? (i := 53) (by decide +kernel))) rfl
theorem tw_1614 : Cond.code yX10_find cX10_find 2 (some .int) ∈ gw_ := gw_in (tk_7 _ (List.mem_of_getElem? (i := 57) (by decide +kernel))) rfl
theorem tw_1618 : Cond.code yX10_send cX10_send 4 (some .int) ∈ gw_ := gw_in (tk_7 _ (List.mem_of_getElem? (i := 61) (by decide +kernel))) rfl
theorem tw_1622 : Cond.code yX10_tell cX10_tell 4 (some .int) ∈ gw_ := gw_in (tk_7 _ (List.mem_of_getElem? (i := 65) (by decide +kernel))) rfl
theorem tw_1623 : Cond.constantLong RX10 374 (60) ∈ gw_ := gw_in (tk_7 _ (List.mem_of_getElem? (i := 66) (by decide +kernel))) rfl
theorem tw_1624 : Cond.methodLink RX10 376 yX10_toldMany ∈ gw_ := gw_in (tk_7 _ (List.mem_of_getElem? (i := 67) (by decide +kernel))) rfl
theorem tw_1626 : Cond.instanceMethod yX10_toldMany ∈ gw_ := gw_in (tk_7 _ (List.mem_of_getElem? (i := 69) (by decide +kernel))) rfl
theorem tw_1627 : Cond.code yX10_toldMany cX10_toldMany 4 (some .int) ∈ gw_ := gw_in (tk_7 _ (List.mem_of_getElem? (i := 70) (by decide +kernel))) rfl
theorem tw_1631 : Cond.code yX10_recount cX10_recount 4 (some .int) ∈ gw_ := gw_in (tk_7 _ (List.mem_of_getElem? (i := 74) (by decide +kernel))) rfl
theorem tw_1632 : Cond.methodLink RX10 379 yX10_recounts ∈ gw_ := gw_in (tk_7 _ (List.mem_of_getElem? (i := 75) (by decide +kernel))) rfl
theorem tw_1634 : Cond.instanceMethod yX10_recounts ∈ gw_ := gw_in (tk_7 _ (List.mem_of_getElem? (i := 77) (by decide +kernel))) rfl
theorem tw_1635 : Cond.code yX10_recounts cX10_recounts 3 none ∈ gw_ := gw_in (tk_7 _ (List.mem_of_getElem? (i := 78) (by decide +kernel))) rfl
theorem tw_1639 : Cond.code yX10_way cX10_way 3 (some .int) ∈ gw_ := gw_in (tk_7 _ (List.mem_of_getElem? (i := 82) (by decide +kernel))) rfl
theorem tw_1643 : Cond.code yX10_balance cX10_balance 2 (some .int) ∈ gw_ := gw_in (tk_7 _ (List.mem_of_getElem? (i := 86) (by decide +kernel))) rfl
theorem tw_1644 : Cond.methodLink RX10 382 yX10_balanceOf ∈ gw_ := gw_in (tk_7 _ (List.mem_of_getElem? (i := 87) (by decide +kernel))) rfl
theorem tw_1646 : Cond.instanceMethod yX10_balanceOf ∈ gw_ := gw_in (tk_7 _ (List.mem_of_getElem? (i := 89) (by decide +kernel))) rfl
theorem tw_1647 : Cond.code yX10_balanceOf cX10_balanceOf 4 (some .int) ∈ gw_ := gw_in (tk_7 _ (List.mem_of_getElem? (i := 90) (by decide +kernel))) rfl
theorem tw_1651 : Cond.code yX10_slips cX10_slips 2 (some .int) ∈ gw_ := gw_in (tk_7 _ (List.mem_of_getElem? (i := 94) (by decide +kernel))) rfl
theorem tw_1652 : Cond.methodLink RX10 428 yX10_isAllTold ∈ gw_ := gw_in (tk_7 _ (List.mem_of_getElem? (i := 95) (by decide +kernel))) rfl
theorem tw_1654 : Cond.instanceMethod yX10_isAllTold ∈ gw_ := gw_in (tk_7 _ (List.mem_of_getElem? (i := 97) (by decide +kernel))) rfl
theorem tw_1655 : Cond.code yX10_isAllTold cX10_isAllTold 3 (some .boolean) ∈ gw_ := gw_in (tk_7 _ (List.mem_of_getElem? (i := 98) (by decide +kernel))) rfl
theorem tw_1656 : Cond.methodLink RX10 431 yX10_fewest ∈ gw_ := gw_in (tk_7 _ (List.mem_of_getElem? (i := 99) (by decide +kernel))) rfl
theorem tw_1658 : Cond.instanceMethod yX10_fewest ∈ gw_ := gw_in (tk_7 _ (List.mem_of_getElem? (i := 101) (by decide +kernel))) rfl
theorem tw_1659 : Cond.code yX10_fewest cX10_fewest 1 (some .int) ∈ gw_ := gw_in (tk_7 _ (List.mem_of_getElem? (i := 102) (by decide +kernel))) rfl
theorem tw_1660 : Cond.methodLink RX10 419 yX10_balances ∈ gw_ := gw_in (tk_7 _ (List.mem_of_getElem? (i := 103) (by decide +kernel))) rfl
theorem tw_1662 : Cond.instanceMethod yX10_balances ∈ gw_ := gw_in (tk_7 _ (List.mem_of_getElem? (i := 105) (by decide +kernel))) rfl
theorem tw_1663 : Cond.code yX10_balances cX10_balances 2 none ∈ gw_ := gw_in (tk_7 _ (List.mem_of_getElem? (i := 106) (by decide +kernel))) rfl
theorem tw_1664 : Cond.methodLink RX10 422 yX10_recountedOnes ∈ gw_ := gw_in (tk_7 _ (List.mem_of_getElem? (i := 107) (by decide +kernel))) rfl
theorem tw_1666 : Cond.instanceMethod yX10_recountedOnes ∈ gw_ := gw_in (tk_7 _ (List.mem_of_getElem? (i := 109) (by decide +kernel))) rfl
theorem tw_1667 : Cond.code yX10_recountedOnes cX10_recountedOnes 3 (some .int) ∈ gw_ := gw_in (tk_7 _ (List.mem_of_getElem? (i := 110) (by decide +kernel))) rfl
theorem tw_1668 : Cond.methodLink RX10 425 yX10_seeks ∈ gw_ := gw_in (tk_7 _ (List.mem_of_getElem? (i := 111) (by decide +kernel))) rfl
theorem tw_1670 : Cond.instanceMethod yX10_seeks ∈ gw_ := gw_in (tk_7 _ (List.mem_of_getElem? (i := 113) (by decide +kernel))) rfl
theorem tw_1671 : Cond.code yX10_seeks cX10_seeks 5 (some .int) ∈ gw_ := gw_in (tk_7 _ (List.mem_of_getElem? (i := 114) (by decide +kernel))) rfl
theorem tw_1672 : Cond.constant RX10 400 (999999) ∈ gw_ := gw_in (tk_7 _ (List.mem_of_getElem? (i := 115) (by decide +kernel))) rfl
theorem tw_1673 : Cond.methodLink RX10 391 yX10_isOf ∈ gw_ := gw_in (tk_7 _ (List.mem_of_getElem? (i := 116) (by decide +kernel))) rfl
theorem tw_1674 : Cond.static yX10_isOf ∈ gw_ := gw_in (tk_7 _ (List.mem_of_getElem? (i := 117) (by decide +kernel))) rfl
theorem tw_1675 : Cond.code yX10_isOf cX10_isOf 2 (some .boolean) ∈ gw_ := gw_in (tk_7 _ (List.mem_of_getElem? (i := 118) (by decide +kernel))) rfl
theorem tw_1676 : Cond.methodLink RX10 404 yX10_slipsNow ∈ gw_ := gw_in (tk_7 _ (List.mem_of_getElem? (i := 119) (by decide +kernel))) rfl
theorem tw_1678 : Cond.instanceMethod yX10_slipsNow ∈ gw_ := gw_in (tk_7 _ (List.mem_of_getElem? (i := 121) (by decide +kernel))) rfl
theorem tw_1679 : Cond.code yX10_slipsNow cX10_slipsNow 8 (some .int) ∈ gw_ := gw_in (tk_7 _ (List.mem_of_getElem? (i := 122) (by decide +kernel))) rfl
theorem tw_1680 : Cond.methodLink RX10 385 yX10_plain ∈ gw_ := gw_in (tk_7 _ (List.mem_of_getElem? (i := 123) (by decide +kernel))) rfl
theorem tw_1681 : Cond.static yX10_plain ∈ gw_ := gw_in (tk_7 _ (List.mem_of_getElem? (i := 124) (by decide +kernel))) rfl
theorem tw_1682 : Cond.code yX10_plain cX10_plain 1 (some .int) ∈ gw_ := gw_in (tk_7 _ (List.mem_of_getElem? (i := 125) (by decide +kernel))) rfl
theorem tw_1683 : Cond.methodLink RX10 394 yX10_most0 ∈ gw_ := gw_in (tk_7 _ (List.mem_of_getElem? (i := 126) (by decide +kernel))) rfl
theorem tw_1684 : Cond.static yX10_most0 ∈ gw_ := gw_in (tk_7 _ (List.mem_of_getElem? (i := 127) (by decide +kernel))) rfl
theorem tw_1685 : Cond.code yX10_most0 cX10_most0 1 (some .int) ∈ gw_ := gw_in (tk_7 _ (List.mem_of_getElem? (i := 128) (by decide +kernel))) rfl
theorem tw_1686 : Cond.methodLink RX10 407 yX10_tensAll ∈ gw_ := gw_in (tk_7 _ (List.mem_of_getElem? (i := 129) (by decide +kernel))) rfl
theorem tw_1688 : Cond.instanceMethod yX10_tensAll ∈ gw_ := gw_in (tk_7 _ (List.mem_of_getElem? (i := 131) (by decide +kernel))) rfl
theorem tw_1689 : Cond.code yX10_tensAll cX10_tensAll 3 (some .int) ∈ gw_ := gw_in (tk_7 _ (List.mem_of_getElem? (i := 132) (by decide +kernel))) rfl
theorem tw_1690 : Cond.methodLink RX10 416 yX10_nextTens ∈ gw_ := gw_in (tk_7 _ (List.mem_of_getElem? (i := 133) (by decide +kernel))) rfl
theorem tw_1692 : Cond.instanceMethod yX10_nextTens ∈ gw_ := gw_in (tk_7 _ (List.mem_of_getElem? (i := 135) (by decide +kernel))) rfl
theorem tw_1693 : Cond.code yX10_nextTens cX10_nextTens 2 (some .boolean) ∈ gw_ := gw_in (tk_7 _ (List.mem_of_getElem? (i := 136) (by decide +kernel))) rfl
theorem tw_1697 : Cond.code yX10_must cX10_must 2 (some .int) ∈ gw_ := gw_in (tk_7 _ (List.mem_of_getElem? (i := 140) (by decide +kernel))) rfl
theorem tw_1698 : Cond.methodLink RX10 434 yX10_freeOnes ∈ gw_ := gw_in (tk_7 _ (List.mem_of_getElem? (i := 141) (by decide +kernel))) rfl
theorem tw_1700 : Cond.instanceMethod yX10_freeOnes ∈ gw_ := gw_in (tk_7 _ (List.mem_of_getElem? (i := 143) (by decide +kernel))) rfl
theorem tw_1701 : Cond.code yX10_freeOnes cX10_freeOnes 5 (some .int) ∈ gw_ := gw_in (tk_7 _ (List.mem_of_getElem? (i := 144) (by decide +kernel))) rfl
theorem tw_1705 : Cond.code yX10_free cX10_free 2 (some .int) ∈ gw_ := gw_in (tk_7 _ (List.mem_of_getElem? (i := 148) (by decide +kernel))) rfl
theorem tw_1709 : Cond.code yX10_leaves cX10_leaves 3 (some .int) ∈ gw_ := gw_in (tk_7 _ (List.mem_of_getElem? (i := 152) (by decide +kernel))) rfl
theorem tw_1710 : Cond.methodLink RX10 437 yX10_keeps ∈ gw_ := gw_in (tk_7 _ (List.mem_of_getElem? (i := 153) (by decide +kernel))) rfl
theorem tw_1712 : Cond.instanceMethod yX10_keeps ∈ gw_ := gw_in (tk_7 _ (List.mem_of_getElem? (i := 155) (by decide +kernel))) rfl
theorem tw_1713 : Cond.code yX10_keeps cX10_keeps 2 none ∈ gw_ := gw_in (tk_7 _ (List.mem_of_getElem? (i := 156) (by decide +kernel))) rfl
theorem tw_1714 : Cond.methodLink RX10 440 yX10_laysBack ∈ gw_ := gw_in (tk_7 _ (List.mem_of_getElem? (i := 157) (by decide +kernel))) rfl
theorem tw_1716 : Cond.instanceMethod yX10_laysBack ∈ gw_ := gw_in (tk_7 _ (List.mem_of_getElem? (i := 159) (by decide +kernel))) rfl
theorem tw_1717 : Cond.code yX10_laysBack cX10_laysBack 2 none ∈ gw_ := gw_in (tk_7 _ (List.mem_of_getElem? (i := 160) (by decide +kernel))) rfl
theorem tw_1721 : Cond.code yX10_ahead cX10_ahead 5 (some .int) ∈ gw_ := gw_in (tk_7 _ (List.mem_of_getElem? (i := 164) (by decide +kernel))) rfl
theorem tw_1722 : Cond.constantLong RX10 443 (100) ∈ gw_ := gw_in (tk_7 _ (List.mem_of_getElem? (i := 165) (by decide +kernel))) rfl
theorem tw_1723 : Cond.constantLong RX10 445 (3) ∈ gw_ := gw_in (tk_7 _ (List.mem_of_getElem? (i := 166) (by decide +kernel))) rfl
theorem tw_1724 : Cond.methodLink RX10 447 yX10_passesAll ∈ gw_ := gw_in (tk_7 _ (List.mem_of_getElem? (i := 167) (by decide +kernel))) rfl
theorem tw_1726 : Cond.instanceMethod yX10_passesAll ∈ gw_ := gw_in (tk_7 _ (List.mem_of_getElem? (i := 169) (by decide +kernel))) rfl
theorem tw_1727 : Cond.code yX10_passesAll cX10_passesAll 3 none ∈ gw_ := gw_in (tk_7 _ (List.mem_of_getElem? (i := 170) (by decide +kernel))) rfl
theorem tw_1731 : Cond.code yX10_dry cX10_dry 4 (some .int) ∈ gw_ := gw_in (tk_7 _ (List.mem_of_getElem? (i := 174) (by decide +kernel))) rfl
theorem tw_1735 : Cond.code yX10_served cX10_served 3 (some .int) ∈ gw_ := gw_in (tk_7 _ (List.mem_of_getElem? (i := 178) (by decide +kernel))) rfl
theorem tw_1739 : Cond.code yX10_more cX10_more 8 (some .int) ∈ gw_ := gw_in (tk_7 _ (List.mem_of_getElem? (i := 182) (by decide +kernel))) rfl
theorem tw_1740 : Cond.methodLink RX10 450 yX10_waitIn ∈ gw_ := gw_in (tk_7 _ (List.mem_of_getElem? (i := 183) (by decide +kernel))) rfl
theorem tw_1742 : Cond.instanceMethod yX10_waitIn ∈ gw_ := gw_in (tk_7 _ (List.mem_of_getElem? (i := 185) (by decide +kernel))) rfl
theorem tw_1743 : Cond.code yX10_waitIn cX10_waitIn 3 (some .int) ∈ gw_ := gw_in (tk_7 _ (List.mem_of_getElem? (i := 186) (by decide +kernel))) rfl
theorem tw_1747 : Cond.code yX10_rests cX10_rests 8 (some .int) ∈ gw_ := gw_in (tk_7 _ (List.mem_of_getElem? (i := 190) (by decide +kernel))) rfl
theorem tw_1748 : Cond.constantLong RX10 456 (20) ∈ gw_ := gw_in (tk_7 _ (List.mem_of_getElem? (i := 191) (by decide +kernel))) rfl
theorem tw_1749 : Cond.methodLink RX10 458 yX10_fillsRest ∈ gw_ := gw_in (tk_7 _ (List.mem_of_getElem? (i := 192) (by decide +kernel))) rfl
theorem tw_1751 : Cond.instanceMethod yX10_fillsRest ∈ gw_ := gw_in (tk_7 _ (List.mem_of_getElem? (i := 194) (by decide +kernel))) rfl
theorem tw_1752 : Cond.code yX10_fillsRest cX10_fillsRest 8 none ∈ gw_ := gw_in (tk_7 _ (List.mem_of_getElem? (i := 195) (by decide +kernel))) rfl
theorem tw_1753 : Cond.methodLink RX10 453 yX10_lesser ∈ gw_ := gw_in (tk_7 _ (List.mem_of_getElem? (i := 196) (by decide +kernel))) rfl
theorem tw_1754 : Cond.static yX10_lesser ∈ gw_ := gw_in (tk_7 _ (List.mem_of_getElem? (i := 197) (by decide +kernel))) rfl
theorem tw_1755 : Cond.code yX10_lesser cX10_lesser 2 (some .int) ∈ gw_ := gw_in (tk_7 _ (List.mem_of_getElem? (i := 198) (by decide +kernel))) rfl
theorem tw_1756 : Cond.methodLink RX10 462 yX10_isRest ∈ gw_ := gw_in (tk_7 _ (List.mem_of_getElem? (i := 199) (by decide +kernel))) rfl
theorem tw_1758 : Cond.instanceMethod yX10_isRest ∈ gw_ := gw_in (tk_7 _ (List.mem_of_getElem? (i := 201) (by decide +kernel))) rfl
theorem tw_1759 : Cond.code yX10_isRest cX10_isRest 4 (some .boolean) ∈ gw_ := gw_in (tk_7 _ (List.mem_of_getElem? (i := 202) (by decide +kernel))) rfl
theorem tw_1763 : Cond.code yX10_pence cX10_pence 9 (some .int) ∈ gw_ := gw_in (tk_7 _ (List.mem_of_getElem? (i := 206) (by decide +kernel))) rfl
theorem tw_1764 : Cond.constantLong RX10 465 (9999) ∈ gw_ := gw_in (tk_7 _ (List.mem_of_getElem? (i := 207) (by decide +kernel))) rfl
theorem tw_1768 : Cond.code yX10_note cX10_note 5 (some .int) ∈ gw_ := gw_in (tk_7 _ (List.mem_of_getElem? (i := 211) (by decide +kernel))) rfl
theorem tw_1772 : Cond.code yX10_ruled cX10_ruled 5 (some .int) ∈ gw_ := gw_in (tk_7 _ (List.mem_of_getElem? (i := 215) (by decide +kernel))) rfl
theorem tw_1773 : Cond.methodLink RX10 473 yX10_fillsFits ∈ gw_ := gw_in (tk_7 _ (List.mem_of_getElem? (i := 216) (by decide +kernel))) rfl
theorem tw_1775 : Cond.instanceMethod yX10_fillsFits ∈ gw_ := gw_in (tk_7 _ (List.mem_of_getElem? (i := 218) (by decide +kernel))) rfl
theorem tw_1776 : Cond.code yX10_fillsFits cX10_fillsFits 4 none ∈ gw_ := gw_in (tk_7 _ (List.mem_of_getElem? (i := 219) (by decide +kernel))) rfl
theorem tw_1777 : Cond.methodLink RX10 470 yX10_areAllSo ∈ gw_ := gw_in (tk_7 _ (List.mem_of_getElem? (i := 220) (by decide +kernel))) rfl
theorem tw_1779 : Cond.instanceMethod yX10_areAllSo ∈ gw_ := gw_in (tk_7 _ (List.mem_of_getElem? (i := 222) (by decide +kernel))) rfl
theorem tw_1780 : Cond.code yX10_areAllSo cX10_areAllSo 6 (some .boolean) ∈ gw_ := gw_in (tk_7 _ (List.mem_of_getElem? (i := 223) (by decide +kernel))) rfl
theorem tw_1781 : Cond.methodLink RX10 467 yX10_areNotesSo ∈ gw_ := gw_in (tk_7 _ (List.mem_of_getElem? (i := 224) (by decide +kernel))) rfl
theorem tw_1783 : Cond.instanceMethod yX10_areNotesSo ∈ gw_ := gw_in (tk_7 _ (List.mem_of_getElem? (i := 226) (by decide +kernel))) rfl
theorem tw_1784 : Cond.code yX10_areNotesSo cX10_areNotesSo 3 (some .boolean) ∈ gw_ := gw_in (tk_7 _ (List.mem_of_getElem? (i := 227) (by decide +kernel))) rfl
theorem tw_1788 : Cond.code yX10_look cX10_look 7 (some .int) ∈ gw_ := gw_in (tk_7 _ (List.mem_of_getElem? (i := 231) (by decide +kernel))) rfl
theorem tw_1789 : Cond.methodLink RX10 476 yX10_alikeAt ∈ gw_ := gw_in (tk_7 _ (List.mem_of_getElem? (i := 232) (by decide +kernel))) rfl
theorem tw_1791 : Cond.instanceMethod yX10_alikeAt ∈ gw_ := gw_in (tk_7 _ (List.mem_of_getElem? (i := 234) (by decide +kernel))) rfl
theorem tw_1792 : Cond.code yX10_alikeAt cX10_alikeAt 6 (some .int) ∈ gw_ := gw_in (tk_7 _ (List.mem_of_getElem? (i := 235) (by decide +kernel))) rfl
theorem tw_1796 : Cond.code yX10_crowds cX10_crowds 7 (some .int) ∈ gw_ := gw_in (tk_7 _ (List.mem_of_getElem? (i := 239) (by decide +kernel))) rfl
theorem tw_1800 : Cond.code yX10_seed cX10_seed 3 (some .int) ∈ gw_ := gw_in (tk_8 _ (List.mem_of_getElem? (i := 3) (by decide +kernel))) rfl
theorem tw_1804 : Cond.code yX10_crowded cX10_crowded 9 (some .int) ∈ gw_ := gw_in (tk_8 _ (List.mem_of_getElem? (i := 7) (by decide +kernel))) rfl
theorem tw_1805 : Cond.constantLong RX10 494 (10) ∈ gw_ := gw_in (tk_8 _ (List.mem_of_getElem? (i := 8) (by decide +kernel))) rfl
theorem tw_1806 : Cond.methodLink RX10 496 yX10_draw ∈ gw_ := gw_in (tk_8 _ (List.mem_of_getElem? (i := 9) (by decide +kernel))) rfl
theorem tw_1808 : Cond.instanceMethod yX10_draw ∈ gw_ := gw_in (tk_8 _ (List.mem_of_getElem? (i := 11) (by decide +kernel))) rfl
theorem tw_1809 : Cond.code yX10_draw cX10_draw 2 (some .int) ∈ gw_ := gw_in (tk_8 _ (List.mem_of_getElem? (i := 12) (by decide +kernel))) rfl
theorem tw_1810 : Cond.constantLong RX10 486 (1103515245) ∈ gw_ := gw_in (tk_8 _ (List.mem_of_getElem? (i := 13) (by decide +kernel))) rfl
theorem tw_1811 : Cond.constantLong RX10 488 (12345) ∈ gw_ := gw_in (tk_8 _ (List.mem_of_getElem? (i := 14) (by decide +kernel))) rfl
theorem tw_1812 : Cond.constantLong RX10 490 (2147483648) ∈ gw_ := gw_in (tk_8 _ (List.mem_of_getElem? (i := 15) (by decide +kernel))) rfl
theorem tw_1813 : Cond.constantLong RX10 492 (65536) ∈ gw_ := gw_in (tk_8 _ (List.mem_of_getElem? (i := 16) (by decide +kernel))) rfl
theorem tw_1814 : Cond.methodLink RX10 499 yX10_crowdsOn ∈ gw_ := gw_in (tk_8 _ (List.mem_of_getElem? (i := 17) (by decide +kernel))) rfl
theorem tw_1816 : Cond.instanceMethod yX10_crowdsOn ∈ gw_ := gw_in (tk_8 _ (List.mem_of_getElem? (i := 19) (by decide +kernel))) rfl
theorem tw_1817 : Cond.code yX10_crowdsOn cX10_crowdsOn 2 none ∈ gw_ := gw_in (tk_8 _ (List.mem_of_getElem? (i := 20) (by decide +kernel))) rfl
theorem tw_1821 : Cond.code yX10_count cX10_count 2 (some .int) ∈ gw_ := gw_in (tk_8 _ (List.mem_of_getElem? (i := 24) (by decide +kernel))) rfl
theorem tw_1822 : Cond.methodLink RX10 502 yX10_servers ∈ gw_ := gw_in (tk_8 _ (List.mem_of_getElem? (i := 25) (by decide +kernel))) rfl
theorem tw_1824 : Cond.instanceMethod yX10_servers ∈ gw_ := gw_in (tk_8 _ (List.mem_of_getElem? (i := 27) (by decide +kernel))) rfl
theorem tw_1825 : Cond.code yX10_servers cX10_servers 3 (some .int) ∈ gw_ := gw_in (tk_8 _ (List.mem_of_getElem? (i := 28) (by decide +kernel))) rfl
theorem tw_1829 : Cond.code yX10_image cX10_image 3 (some .int) ∈ gw_ := gw_in (tk_8 _ (List.mem_of_getElem? (i := 32) (by decide +kernel))) rfl
theorem tw_1833 : Cond.code yX10_back cX10_back 3 (some .int) ∈ gw_ := gw_in (tk_8 _ (List.mem_of_getElem? (i := 36) (by decide +kernel))) rfl
theorem tw_1834 : Cond.fieldLink RJ0 9 "java/lang/String" "value" "[B" ∈ gw_ := gw_in (tk_8 _ (List.mem_of_getElem? (i := 37) (by decide +kernel))) rfl
theorem tw_1835 : Cond.fieldLink RJ0 15 "java/lang/String" "coder" "B" ∈ gw_ := gw_in (tk_8 _ (List.mem_of_getElem? (i := 38) (by decide +kernel))) rfl
