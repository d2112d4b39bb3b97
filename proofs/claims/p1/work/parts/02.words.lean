/-! the good words of the tables; each word by its place -/
def lw_good : List Cond := lw_tbl.filter goodWord
theorem gmem {w : Cond} {i : Nat} (h : lw_tbl[i]? = some w) (g : goodWord w = true) : w ∈ lw_good := List.mem_filter.mpr ⟨List.mem_of_getElem? h, g⟩
def WS (cd : Cond) : List Cond := cd :: lw_good
theorem ks_X4_linkOwn : Cond.selects RX4 yX4_linkOwn yX4_linkOwn ∈ lw_good := gmem (i := 0) (by decide +kernel) rfl
theorem ks_X4_linkPrevious : Cond.selects RX4 yX4_linkPrevious yX4_linkPrevious ∈ lw_good := gmem (i := 1) (by decide +kernel) rfl
theorem ks_X4_linkCross : Cond.selects RX4 yX4_linkCross yX4_linkCross ∈ lw_good := gmem (i := 2) (by decide +kernel) rfl
theorem ks_X4_sendFor : Cond.selects RX4 yX4_sendFor yX4_sendFor ∈ lw_good := gmem (i := 3) (by decide +kernel) rfl
theorem ks_X4_linkNode : Cond.selects RX4 yX4_linkNode yX4_linkNode ∈ lw_good := gmem (i := 4) (by decide +kernel) rfl
theorem ks_X8_advance : Cond.selects RX8 yX8_advance yX8_advance ∈ lw_good := gmem (i := 5) (by decide +kernel) rfl
theorem ks_X8_byteAt : Cond.selects RX8 yX8_byteAt yX8_byteAt ∈ lw_good := gmem (i := 6) (by decide +kernel) rfl
theorem ks_X8_readHead : Cond.selects RX8 yX8_readHead yX8_readHead ∈ lw_good := gmem (i := 7) (by decide +kernel) rfl
theorem ks_X8_isWord : Cond.selects RX8 yX8_isWord yX8_isWord ∈ lw_good := gmem (i := 8) (by decide +kernel) rfl
theorem ks_X8_fail : Cond.selects RX8 yX8_fail yX8_fail ∈ lw_good := gmem (i := 9) (by decide +kernel) rfl
theorem ks_X8_numberHere : Cond.selects RX8 yX8_numberHere yX8_numberHere ∈ lw_good := gmem (i := 10) (by decide +kernel) rfl
theorem ks_X8_openBrace : Cond.selects RX8 yX8_openBrace yX8_openBrace ∈ lw_good := gmem (i := 11) (by decide +kernel) rfl
theorem ks_X8_closeBrace : Cond.selects RX8 yX8_closeBrace yX8_closeBrace ∈ lw_good := gmem (i := 12) (by decide +kernel) rfl
theorem ks_X9_addAgain : Cond.selects RX9 yX9_addAgain yX9_addAgain ∈ lw_good := gmem (i := 13) (by decide +kernel) rfl
theorem ks_X8_readStep : Cond.selects RX8 yX8_readStep yX8_readStep ∈ lw_good := gmem (i := 14) (by decide +kernel) rfl
theorem ks_X8_stepOfWord : Cond.selects RX8 yX8_stepOfWord yX8_stepOfWord ∈ lw_good := gmem (i := 15) (by decide +kernel) rfl
theorem ks_X8_readOpening : Cond.selects RX8 yX8_readOpening yX8_readOpening ∈ lw_good := gmem (i := 16) (by decide +kernel) rfl
theorem ks_X8_passLetter : Cond.selects RX8 yX8_passLetter yX8_passLetter ∈ lw_good := gmem (i := 17) (by decide +kernel) rfl
theorem ks_X8_pass : Cond.selects RX8 yX8_pass yX8_pass ∈ lw_good := gmem (i := 18) (by decide +kernel) rfl
theorem ks_X8_passWithin : Cond.selects RX8 yX8_passWithin yX8_passWithin ∈ lw_good := gmem (i := 19) (by decide +kernel) rfl
theorem ks_X8_readPlain : Cond.selects RX8 yX8_readPlain yX8_readPlain ∈ lw_good := gmem (i := 20) (by decide +kernel) rfl
theorem ks_X11_logIsMade : Cond.selects RX11 yX11_logIsMade yX11_logIsMade ∈ lw_good := gmem (i := 21) (by decide +kernel) rfl
theorem ks_X11_refuse : Cond.selects RX11 yX11_refuse yX11_refuse ∈ lw_good := gmem (i := 22) (by decide +kernel) rfl
theorem ks_X11_hasRow : Cond.selects RX11 yX11_hasRow yX11_hasRow ∈ lw_good := gmem (i := 23) (by decide +kernel) rfl
theorem ks_X11_newRun : Cond.selects RX11 yX11_newRun yX11_newRun ∈ lw_good := gmem (i := 24) (by decide +kernel) rfl
theorem ks_X6_isStarted : Cond.selects RX6 yX6_isStarted yX6_isStarted ∈ lw_good := gmem (i := 25) (by decide +kernel) rfl
theorem ks_X6_hasCode : Cond.selects RX6 yX6_hasCode yX6_hasCode ∈ lw_good := gmem (i := 26) (by decide +kernel) rfl
theorem ks_X11_goOnce : Cond.selects RX11 yX11_goOnce yX11_goOnce ∈ lw_good := gmem (i := 27) (by decide +kernel) rfl
theorem ks_X6_look : Cond.selects RX6 yX6_look yX6_look ∈ lw_good := gmem (i := 28) (by decide +kernel) rfl
theorem ks_X5_enterGate : Cond.selects RX5 yX5_enterGate yX5_enterGate ∈ lw_good := gmem (i := 29) (by decide +kernel) rfl
theorem ks_X5_leaveGate : Cond.selects RX5 yX5_leaveGate yX5_leaveGate ∈ lw_good := gmem (i := 30) (by decide +kernel) rfl
theorem ks_X11_isAct : Cond.selects RX11 yX11_isAct yX11_isAct ∈ lw_good := gmem (i := 31) (by decide +kernel) rfl
theorem ks_X11_lawClocks : Cond.selects RX11 yX11_lawClocks yX11_lawClocks ∈ lw_good := gmem (i := 32) (by decide +kernel) rfl
theorem ks_X2_ownAhead : Cond.selects RX2 yX2_ownAhead yX2_ownAhead ∈ lw_good := gmem (i := 33) (by decide +kernel) rfl
theorem ks_X2_orders : Cond.selects RX2 yX2_orders yX2_orders ∈ lw_good := gmem (i := 34) (by decide +kernel) rfl
theorem ks_X2_crossAhead : Cond.selects RX2 yX2_crossAhead yX2_crossAhead ∈ lw_good := gmem (i := 35) (by decide +kernel) rfl
theorem ks_X2_isMarked : Cond.selects RX2 yX2_isMarked yX2_isMarked ∈ lw_good := gmem (i := 36) (by decide +kernel) rfl
theorem ks_X2_takeIn : Cond.selects RX2 yX2_takeIn yX2_takeIn ∈ lw_good := gmem (i := 37) (by decide +kernel) rfl
theorem ks_X2_nearest : Cond.selects RX2 yX2_nearest yX2_nearest ∈ lw_good := gmem (i := 38) (by decide +kernel) rfl
theorem ks_X2_countRivals : Cond.selects RX2 yX2_countRivals yX2_countRivals ∈ lw_good := gmem (i := 39) (by decide +kernel) rfl
theorem ks_X11_tellMeeting : Cond.selects RX11 yX11_tellMeeting yX11_tellMeeting ∈ lw_good := gmem (i := 40) (by decide +kernel) rfl
theorem ks_X7_pack : Cond.selects RX7 yX7_pack yX7_pack ∈ lw_good := gmem (i := 41) (by decide +kernel) rfl
theorem ks_X10_hashOf : Cond.selects RX10 yX10_hashOf yX10_hashOf ∈ lw_good := gmem (i := 42) (by decide +kernel) rfl
theorem ks_X10_isSame : Cond.selects RX10 yX10_isSame yX10_isSame ∈ lw_good := gmem (i := 43) (by decide +kernel) rfl
theorem ks_X7_isBehind : Cond.selects RX7 yX7_isBehind yX7_isBehind ∈ lw_good := gmem (i := 44) (by decide +kernel) rfl
theorem ks_X7_isStarted : Cond.selects RX7 yX7_isStarted yX7_isStarted ∈ lw_good := gmem (i := 45) (by decide +kernel) rfl
theorem ks_X7_isDone : Cond.selects RX7 yX7_isDone yX7_isDone ∈ lw_good := gmem (i := 46) (by decide +kernel) rfl
theorem ks_X7_show : Cond.selects RX7 yX7_show yX7_show ∈ lw_good := gmem (i := 47) (by decide +kernel) rfl
theorem ks_X7_unpack : Cond.selects RX7 yX7_unpack yX7_unpack ∈ lw_good := gmem (i := 48) (by decide +kernel) rfl
theorem ks_X7_mayGo : Cond.selects RX7 yX7_mayGo yX7_mayGo ∈ lw_good := gmem (i := 49) (by decide +kernel) rfl
theorem ks_X7_isFree : Cond.selects RX7 yX7_isFree yX7_isFree ∈ lw_good := gmem (i := 50) (by decide +kernel) rfl
theorem ks_X7_goOn : Cond.selects RX7 yX7_goOn yX7_goOn ∈ lw_good := gmem (i := 51) (by decide +kernel) rfl
theorem ks_X11_replay : Cond.selects RX11 yX11_replay yX11_replay ∈ lw_good := gmem (i := 52) (by decide +kernel) rfl
theorem ks_X11_goThroughAllRuns : Cond.selects RX11 yX11_goThroughAllRuns yX11_goThroughAllRuns ∈ lw_good := gmem (i := 53) (by decide +kernel) rfl
theorem ks_X0_goOnFrom : Cond.selects RX0 yX0_goOnFrom yX0_goOnFrom ∈ lw_good := gmem (i := 54) (by decide +kernel) rfl
theorem ks_X0_noteEnd : Cond.selects RX0 yX0_noteEnd yX0_noteEnd ∈ lw_good := gmem (i := 55) (by decide +kernel) rfl
theorem ks_X11_meetingsBy : Cond.selects RX11 yX11_meetingsBy yX11_meetingsBy ∈ lw_good := gmem (i := 56) (by decide +kernel) rfl
theorem ks_X4_leadsTo : Cond.selects RX4 yX4_leadsTo yX4_leadsTo ∈ lw_good := gmem (i := 57) (by decide +kernel) rfl
theorem ks_X4_isEdge : Cond.selects RX4 yX4_isEdge yX4_isEdge ∈ lw_good := gmem (i := 58) (by decide +kernel) rfl
theorem ks_X1_put : Cond.selects RX1 yX1_put yX1_put ∈ lw_good := gmem (i := 59) (by decide +kernel) rfl
theorem ks_X1_countLog : Cond.selects RX1 yX1_countLog yX1_countLog ∈ lw_good := gmem (i := 60) (by decide +kernel) rfl
theorem ks_X11_rowsThere : Cond.selects RX11 yX11_rowsThere yX11_rowsThere ∈ lw_good := gmem (i := 61) (by decide +kernel) rfl
theorem ks_X12_no : Cond.selects RX12 yX12_no yX12_no ∈ lw_good := gmem (i := 62) (by decide +kernel) rfl
theorem ks_X12_step : Cond.selects RX12 yX12_step yX12_step ∈ lw_good := gmem (i := 63) (by decide +kernel) rfl
theorem ks_X12_see : Cond.selects RX12 yX12_see yX12_see ∈ lw_good := gmem (i := 64) (by decide +kernel) rfl
theorem ks_X12_good : Cond.selects RX12 yX12_good yX12_good ∈ lw_good := gmem (i := 65) (by decide +kernel) rfl
theorem ks_X12_readHand : Cond.selects RX12 yX12_readHand yX12_readHand ∈ lw_good := gmem (i := 66) (by decide +kernel) rfl
theorem ks_X12_takes : Cond.selects RX12 yX12_takes yX12_takes ∈ lw_good := gmem (i := 67) (by decide +kernel) rfl
theorem ks_X12_is : Cond.selects RX12 yX12_is yX12_is ∈ lw_good := gmem (i := 68) (by decide +kernel) rfl
theorem ks_X12_wrong : Cond.selects RX12 yX12_wrong yX12_wrong ∈ lw_good := gmem (i := 69) (by decide +kernel) rfl
theorem ks_X12_number : Cond.selects RX12 yX12_number yX12_number ∈ lw_good := gmem (i := 70) (by decide +kernel) rfl
theorem ks_X12_readSteps : Cond.selects RX12 yX12_readSteps yX12_readSteps ∈ lw_good := gmem (i := 71) (by decide +kernel) rfl
theorem ks_X12_isSign : Cond.selects RX12 yX12_isSign yX12_isSign ∈ lw_good := gmem (i := 72) (by decide +kernel) rfl
theorem ks_X12_needsSign : Cond.selects RX12 yX12_needsSign yX12_needsSign ∈ lw_good := gmem (i := 73) (by decide +kernel) rfl
theorem ks_X12_readStep : Cond.selects RX12 yX12_readStep yX12_readStep ∈ lw_good := gmem (i := 74) (by decide +kernel) rfl
theorem ks_X12_letter : Cond.selects RX12 yX12_letter yX12_letter ∈ lw_good := gmem (i := 75) (by decide +kernel) rfl
theorem ks_X12_adds : Cond.selects RX12 yX12_adds yX12_adds ∈ lw_good := gmem (i := 76) (by decide +kernel) rfl
theorem ks_X12_codeAt : Cond.selects RX12 yX12_codeAt yX12_codeAt ∈ lw_good := gmem (i := 77) (by decide +kernel) rfl
theorem ks_X12_again : Cond.selects RX12 yX12_again yX12_again ∈ lw_good := gmem (i := 78) (by decide +kernel) rfl
theorem ks_X12_readPlain : Cond.selects RX12 yX12_readPlain yX12_readPlain ∈ lw_good := gmem (i := 79) (by decide +kernel) rfl
theorem ks_X12_lays : Cond.selects RX12 yX12_lays yX12_lays ∈ lw_good := gmem (i := 80) (by decide +kernel) rfl
theorem ks_X12_clears : Cond.selects RX12 yX12_clears yX12_clears ∈ lw_good := gmem (i := 81) (by decide +kernel) rfl
theorem ks_X12_runBy : Cond.selects RX12 yX12_runBy yX12_runBy ∈ lw_good := gmem (i := 82) (by decide +kernel) rfl
theorem ks_X12_begins : Cond.selects RX12 yX12_begins yX12_begins ∈ lw_good := gmem (i := 83) (by decide +kernel) rfl
theorem ks_X12_canGo : Cond.selects RX12 yX12_canGo yX12_canGo ∈ lw_good := gmem (i := 84) (by decide +kernel) rfl
theorem ks_X12_hasCode : Cond.selects RX12 yX12_hasCode yX12_hasCode ∈ lw_good := gmem (i := 85) (by decide +kernel) rfl
theorem ks_X12_codeOf : Cond.selects RX12 yX12_codeOf yX12_codeOf ∈ lw_good := gmem (i := 86) (by decide +kernel) rfl
theorem ks_X12_logs : Cond.selects RX12 yX12_logs yX12_logs ∈ lw_good := gmem (i := 87) (by decide +kernel) rfl
theorem ks_X12_goes : Cond.selects RX12 yX12_goes yX12_goes ∈ lw_good := gmem (i := 88) (by decide +kernel) rfl
theorem ks_X12_heldBy : Cond.selects RX12 yX12_heldBy yX12_heldBy ∈ lw_good := gmem (i := 89) (by decide +kernel) rfl
theorem ks_X12_leastHand : Cond.selects RX12 yX12_leastHand yX12_leastHand ∈ lw_good := gmem (i := 90) (by decide +kernel) rfl
theorem ks_X12_stuckNow : Cond.selects RX12 yX12_stuckNow yX12_stuckNow ∈ lw_good := gmem (i := 91) (by decide +kernel) rfl
theorem ks_X12_isAct : Cond.selects RX12 yX12_isAct yX12_isAct ∈ lw_good := gmem (i := 92) (by decide +kernel) rfl
theorem ks_X12_of : Cond.selects RX12 yX12_of yX12_of ∈ lw_good := gmem (i := 93) (by decide +kernel) rfl
theorem ks_X12_clocks : Cond.selects RX12 yX12_clocks yX12_clocks ∈ lw_good := gmem (i := 94) (by decide +kernel) rfl
theorem ks_X12_findAhead : Cond.selects RX12 yX12_findAhead yX12_findAhead ∈ lw_good := gmem (i := 95) (by decide +kernel) rfl
theorem ks_X12_latest : Cond.selects RX12 yX12_latest yX12_latest ∈ lw_good := gmem (i := 96) (by decide +kernel) rfl
theorem ks_X12_isLaw : Cond.selects RX12 yX12_isLaw yX12_isLaw ∈ lw_good := gmem (i := 97) (by decide +kernel) rfl
theorem ks_X12_lawOf : Cond.selects RX12 yX12_lawOf yX12_lawOf ∈ lw_good := gmem (i := 98) (by decide +kernel) rfl
theorem ks_X12_sendOf : Cond.selects RX12 yX12_sendOf yX12_sendOf ∈ lw_good := gmem (i := 99) (by decide +kernel) rfl
theorem ks_X12_isTouch : Cond.selects RX12 yX12_isTouch yX12_isTouch ∈ lw_good := gmem (i := 100) (by decide +kernel) rfl
theorem ks_X12_latestTouch : Cond.selects RX12 yX12_latestTouch yX12_latestTouch ∈ lw_good := gmem (i := 101) (by decide +kernel) rfl
theorem ks_X12_merges : Cond.selects RX12 yX12_merges yX12_merges ∈ lw_good := gmem (i := 102) (by decide +kernel) rfl
theorem ks_X12_isBefore : Cond.selects RX12 yX12_isBefore yX12_isBefore ∈ lw_good := gmem (i := 103) (by decide +kernel) rfl
theorem ks_X12_meetings : Cond.selects RX12 yX12_meetings yX12_meetings ∈ lw_good := gmem (i := 104) (by decide +kernel) rfl
theorem ks_X12_meet0 : Cond.selects RX12 yX12_meet0 yX12_meet0 ∈ lw_good := gmem (i := 105) (by decide +kernel) rfl
theorem ks_X12_clash : Cond.selects RX12 yX12_clash yX12_clash ∈ lw_good := gmem (i := 106) (by decide +kernel) rfl
theorem ks_X12_search : Cond.selects RX12 yX12_search yX12_search ∈ lw_good := gmem (i := 107) (by decide +kernel) rfl
theorem ks_X12_sorts : Cond.selects RX12 yX12_sorts yX12_sorts ∈ lw_good := gmem (i := 108) (by decide +kernel) rfl
theorem ks_X12_laysOrder : Cond.selects RX12 yX12_laysOrder yX12_laysOrder ∈ lw_good := gmem (i := 109) (by decide +kernel) rfl
theorem ks_X12_isLaid : Cond.selects RX12 yX12_isLaid yX12_isLaid ∈ lw_good := gmem (i := 110) (by decide +kernel) rfl
theorem ks_X12_sideBySide : Cond.selects RX12 yX12_sideBySide yX12_sideBySide ∈ lw_good := gmem (i := 111) (by decide +kernel) rfl
theorem ks_X12_isStarted : Cond.selects RX12 yX12_isStarted yX12_isStarted ∈ lw_good := gmem (i := 112) (by decide +kernel) rfl
theorem ks_X12_isDone : Cond.selects RX12 yX12_isDone yX12_isDone ∈ lw_good := gmem (i := 113) (by decide +kernel) rfl
theorem ks_X12_couldGo : Cond.selects RX12 yX12_couldGo yX12_couldGo ∈ lw_good := gmem (i := 114) (by decide +kernel) rfl
theorem ks_X12_sawOf : Cond.selects RX12 yX12_sawOf yX12_sawOf ∈ lw_good := gmem (i := 115) (by decide +kernel) rfl
theorem ks_X12_isFree : Cond.selects RX12 yX12_isFree yX12_isFree ∈ lw_good := gmem (i := 116) (by decide +kernel) rfl
theorem ks_X12_plays : Cond.selects RX12 yX12_plays yX12_plays ∈ lw_good := gmem (i := 117) (by decide +kernel) rfl
theorem ks_X12_goesOn : Cond.selects RX12 yX12_goesOn yX12_goesOn ∈ lw_good := gmem (i := 118) (by decide +kernel) rfl
theorem ks_X12_allRuns : Cond.selects RX12 yX12_allRuns yX12_allRuns ∈ lw_good := gmem (i := 119) (by decide +kernel) rfl
theorem ks_X12_laysRun : Cond.selects RX12 yX12_laysRun yX12_laysRun ∈ lw_good := gmem (i := 120) (by decide +kernel) rfl
theorem ks_X12_isRunLaid : Cond.selects RX12 yX12_isRunLaid yX12_isRunLaid ∈ lw_good := gmem (i := 121) (by decide +kernel) rfl
theorem ks_X12_brings : Cond.selects RX12 yX12_brings yX12_brings ∈ lw_good := gmem (i := 122) (by decide +kernel) rfl
theorem ks_X12_sameEnd : Cond.selects RX12 yX12_sameEnd yX12_sameEnd ∈ lw_good := gmem (i := 123) (by decide +kernel) rfl
theorem ks_X12_meetingsBy : Cond.selects RX12 yX12_meetingsBy yX12_meetingsBy ∈ lw_good := gmem (i := 124) (by decide +kernel) rfl
theorem ks_X12_gateAt : Cond.selects RX12 yX12_gateAt yX12_gateAt ∈ lw_good := gmem (i := 125) (by decide +kernel) rfl
theorem ks_X12_nodes : Cond.selects RX12 yX12_nodes yX12_nodes ∈ lw_good := gmem (i := 126) (by decide +kernel) rfl
theorem ks_X12_leads : Cond.selects RX12 yX12_leads yX12_leads ∈ lw_good := gmem (i := 127) (by decide +kernel) rfl
theorem ks_X12_isBolt : Cond.selects RX12 yX12_isBolt yX12_isBolt ∈ lw_good := gmem (i := 128) (by decide +kernel) rfl
theorem ks_X12_books : Cond.selects RX12 yX12_books yX12_books ∈ lw_good := gmem (i := 129) (by decide +kernel) rfl
theorem ks_X12_pairFor : Cond.selects RX12 yX12_pairFor yX12_pairFor ∈ lw_good := gmem (i := 130) (by decide +kernel) rfl
theorem kz_L : Cond.initialized RL ∈ lw_good := gmem (i := 131) (by decide +kernel) rfl
theorem kz_X11 : Cond.initialized RX11 ∈ lw_good := gmem (i := 132) (by decide +kernel) rfl
theorem kz_X8 : Cond.initialized RX8 ∈ lw_good := gmem (i := 133) (by decide +kernel) rfl
theorem kz_X9 : Cond.initialized RX9 ∈ lw_good := gmem (i := 134) (by decide +kernel) rfl
theorem kz_X3 : Cond.initialized RX3 ∈ lw_good := gmem (i := 135) (by decide +kernel) rfl
theorem kz_X5 : Cond.initialized RX5 ∈ lw_good := gmem (i := 136) (by decide +kernel) rfl
theorem kz_X1 : Cond.initialized RX1 ∈ lw_good := gmem (i := 137) (by decide +kernel) rfl
theorem kz_X4 : Cond.initialized RX4 ∈ lw_good := gmem (i := 138) (by decide +kernel) rfl
theorem kz_X2 : Cond.initialized RX2 ∈ lw_good := gmem (i := 139) (by decide +kernel) rfl
theorem kz_X6 : Cond.initialized RX6 ∈ lw_good := gmem (i := 140) (by decide +kernel) rfl
theorem kz_X10 : Cond.initialized RX10 ∈ lw_good := gmem (i := 141) (by decide +kernel) rfl
theorem kz_X7 : Cond.initialized RX7 ∈ lw_good := gmem (i := 142) (by decide +kernel) rfl
theorem kz_X0 : Cond.initialized RX0 ∈ lw_good := gmem (i := 143) (by decide +kernel) rfl
theorem kz_J7 : Cond.initialized RJ7 ∈ lw_good := gmem (i := 144) (by decide +kernel) rfl
theorem kz_J10 : Cond.initialized RJ10 ∈ lw_good := gmem (i := 145) (by decide +kernel) rfl
theorem kz_X12 : Cond.initialized RX12 ∈ lw_good := gmem (i := 146) (by decide +kernel) rfl
theorem kz_J9 : Cond.initialized RJ9 ∈ lw_good := gmem (i := 147) (by decide +kernel) rfl
theorem kz_J0 : Cond.initialized RJ0 ∈ lw_good := gmem (i := 148) (by decide +kernel) rfl
theorem kz_J1 : Cond.initialized RJ1 ∈ lw_good := gmem (i := 149) (by decide +kernel) rfl
theorem kz_J3 : Cond.initialized RJ3 ∈ lw_good := gmem (i := 150) (by decide +kernel) rfl
theorem kz_J2 : Cond.initialized RJ2 ∈ lw_good := gmem (i := 151) (by decide +kernel) rfl
theorem kz_J6 : Cond.initialized RJ6 ∈ lw_good := gmem (i := 152) (by decide +kernel) rfl
theorem kc_L_7 : Cond.classLink RL 7 RX11 ∈ lw_good := gmem (i := 153) (by decide +kernel) rfl
theorem kq_X11 : Cond.instantiable RX11 17 ∈ lw_good := gmem (i := 154) (by decide +kernel) rfl
theorem km_L_9 : Cond.methodLink RL 9 yX11_init ∈ lw_good := gmem (i := 155) (by decide +kernel) rfl
theorem ki_X11_init : Cond.instanceMethod yX11_init ∈ lw_good := gmem (i := 156) (by decide +kernel) rfl
theorem kd_X11_init : Cond.code yX11_init cX11_init 2 none ∈ lw_good := gmem (i := 157) (by decide +kernel) rfl
theorem km_X11_3 : Cond.methodLink RX11 3 objectInit ∈ lw_good := gmem (i := 158) (by decide +kernel) rfl
theorem ki_objectInit : Cond.instanceMethod objectInit ∈ lw_good := gmem (i := 159) (by decide +kernel) rfl
theorem kd_objectInit : Cond.code objectInit ⟨#[0xb1]⟩ 1 none ∈ lw_good := gmem (i := 160) (by decide +kernel) rfl
theorem kc_X11_9 : Cond.classLink RX11 9 RX8 ∈ lw_good := gmem (i := 161) (by decide +kernel) rfl
theorem kq_X8 : Cond.instantiable RX8 15 ∈ lw_good := gmem (i := 162) (by decide +kernel) rfl
theorem kn_X11_11 : Cond.methodLinkNest RX11 11 yX8_init "OneCup" ∈ lw_tbl := List.mem_of_getElem? (i := 163) (by decide +kernel)
theorem ki_X8_init : Cond.instanceMethod yX8_init ∈ lw_good := gmem (i := 164) (by decide +kernel) rfl
theorem kd_X8_init : Cond.code yX8_init cX8_init 1 none ∈ lw_good := gmem (i := 165) (by decide +kernel) rfl
theorem km_X8_3 : Cond.methodLink RX8 3 objectInit ∈ lw_good := gmem (i := 166) (by decide +kernel) rfl
theorem kc_X8_15 : Cond.classLink RX8 15 RX9 ∈ lw_good := gmem (i := 167) (by decide +kernel) rfl
theorem kq_X9 : Cond.instantiable RX9 8 ∈ lw_good := gmem (i := 168) (by decide +kernel) rfl
theorem kn_X8_17 : Cond.methodLinkNest RX8 17 yX9_init "OneCup" ∈ lw_tbl := List.mem_of_getElem? (i := 169) (by decide +kernel)
theorem ki_X9_init : Cond.instanceMethod yX9_init ∈ lw_good := gmem (i := 170) (by decide +kernel) rfl
theorem kd_X9_init : Cond.code yX9_init cX9_init 1 none ∈ lw_good := gmem (i := 171) (by decide +kernel) rfl
theorem km_X9_3 : Cond.methodLink RX9 3 objectInit ∈ lw_good := gmem (i := 172) (by decide +kernel) rfl
theorem kf_X9_9 : Cond.fieldLink RX9 9 "OneCup$Script" "sort" "[I" ∈ lw_good := gmem (i := 173) (by decide +kernel) rfl
theorem kf_X5_71 : Cond.fieldLink RX5 71 "OneCup$Script" "sort" "[I" ∈ lw_good := gmem (i := 174) (by decide +kernel) rfl
theorem kf_X6_56 : Cond.fieldLink RX6 56 "OneCup$Script" "sort" "[I" ∈ lw_good := gmem (i := 175) (by decide +kernel) rfl
theorem kf_X9_15 : Cond.fieldLink RX9 15 "OneCup$Script" "arg" "[I" ∈ lw_good := gmem (i := 176) (by decide +kernel) rfl
theorem kf_X5_74 : Cond.fieldLink RX5 74 "OneCup$Script" "arg" "[I" ∈ lw_good := gmem (i := 177) (by decide +kernel) rfl
theorem kf_X6_53 : Cond.fieldLink RX6 53 "OneCup$Script" "arg" "[I" ∈ lw_good := gmem (i := 178) (by decide +kernel) rfl
theorem kf_X9_18 : Cond.fieldLink RX9 18 "OneCup$Script" "number" "[I" ∈ lw_good := gmem (i := 179) (by decide +kernel) rfl
theorem kf_X6_69 : Cond.fieldLink RX6 69 "OneCup$Script" "number" "[I" ∈ lw_good := gmem (i := 180) (by decide +kernel) rfl
theorem kf_X9_21 : Cond.fieldLink RX9 21 "OneCup$Script" "kind" "[I" ∈ lw_good := gmem (i := 181) (by decide +kernel) rfl
theorem kf_X6_66 : Cond.fieldLink RX6 66 "OneCup$Script" "kind" "[I" ∈ lw_good := gmem (i := 182) (by decide +kernel) rfl
theorem kf_X9_24 : Cond.fieldLink RX9 24 "OneCup$Script" "skip" "[I" ∈ lw_good := gmem (i := 183) (by decide +kernel) rfl
theorem kf_X6_72 : Cond.fieldLink RX6 72 "OneCup$Script" "skip" "[I" ∈ lw_good := gmem (i := 184) (by decide +kernel) rfl
theorem kf_X9_27 : Cond.fieldLink RX9 27 "OneCup$Script" "place" "[I" ∈ lw_good := gmem (i := 185) (by decide +kernel) rfl
theorem kf_X5_89 : Cond.fieldLink RX5 89 "OneCup$Script" "place" "[I" ∈ lw_good := gmem (i := 186) (by decide +kernel) rfl
theorem kf_X9_30 : Cond.fieldLink RX9 30 "OneCup$Script" "count" "[I" ∈ lw_good := gmem (i := 187) (by decide +kernel) rfl
theorem kf_X6_41 : Cond.fieldLink RX6 41 "OneCup$Script" "count" "[I" ∈ lw_good := gmem (i := 188) (by decide +kernel) rfl
theorem kf_X9_39 : Cond.fieldLink RX9 39 "OneCup$Script" "told" "I" ∈ lw_good := gmem (i := 189) (by decide +kernel) rfl
theorem kf_X11_131 : Cond.fieldLink RX11 131 "OneCup$Script" "told" "I" ∈ lw_good := gmem (i := 190) (by decide +kernel) rfl
theorem kf_X8_120 : Cond.fieldLink RX8 120 "OneCup$Script" "told" "I" ∈ lw_good := gmem (i := 191) (by decide +kernel) rfl
theorem ka_byte : Cond.arrayClass .byte ∈ lw_good := gmem (i := 209) (by decide +kernel) rfl
theorem ka_int : Cond.arrayClass .int ∈ lw_good := gmem (i := 210) (by decide +kernel) rfl
theorem kf_X8_9 : Cond.fieldLink RX8 9 "OneCup$Reader" "tape" "[B" ∈ lw_good := gmem (i := 211) (by decide +kernel) rfl
theorem kf_X11_94 : Cond.fieldLink RX11 94 "OneCup$Reader" "length" "I" ∈ lw_good := gmem (i := 212) (by decide +kernel) rfl
theorem kf_X8_39 : Cond.fieldLink RX8 39 "OneCup$Reader" "length" "I" ∈ lw_good := gmem (i := 213) (by decide +kernel) rfl
theorem kf_X8_18 : Cond.fieldLink RX8 18 "OneCup$Reader" "draft" "LOneCup$Script;" ∈ lw_good := gmem (i := 214) (by decide +kernel) rfl
theorem kf_X11_110 : Cond.fieldLink RX11 110 "OneCup$Reader" "draft" "LOneCup$Script;" ∈ lw_good := gmem (i := 215) (by decide +kernel) rfl
theorem kf_X8_45 : Cond.fieldLink RX8 45 "OneCup$Reader" "fault" "I" ∈ lw_good := gmem (i := 216) (by decide +kernel) rfl
theorem kf_X11_140 : Cond.fieldLink RX11 140 "OneCup$Reader" "fault" "I" ∈ lw_good := gmem (i := 217) (by decide +kernel) rfl
theorem kf_X8_22 : Cond.fieldLink RX8 22 "OneCup$Reader" "faultPlace" "I" ∈ lw_good := gmem (i := 218) (by decide +kernel) rfl
theorem kf_X11_143 : Cond.fieldLink RX11 143 "OneCup$Reader" "faultPlace" "I" ∈ lw_good := gmem (i := 219) (by decide +kernel) rfl
theorem kf_X8_48 : Cond.fieldLink RX8 48 "OneCup$Reader" "at" "I" ∈ lw_good := gmem (i := 220) (by decide +kernel) rfl
theorem kf_X8_60 : Cond.fieldLink RX8 60 "OneCup$Reader" "token" "I" ∈ lw_good := gmem (i := 221) (by decide +kernel) rfl
theorem kf_X8_72 : Cond.fieldLink RX8 72 "OneCup$Reader" "place" "I" ∈ lw_good := gmem (i := 222) (by decide +kernel) rfl
theorem kf_X8_86 : Cond.fieldLink RX8 86 "OneCup$Reader" "number" "I" ∈ lw_good := gmem (i := 223) (by decide +kernel) rfl
theorem kf_X8_51 : Cond.fieldLink RX8 51 "OneCup$Reader" "depth" "I" ∈ lw_good := gmem (i := 224) (by decide +kernel) rfl
theorem kf_X8_54 : Cond.fieldLink RX8 54 "OneCup$Reader" "hand" "I" ∈ lw_good := gmem (i := 225) (by decide +kernel) rfl
theorem kf_X8_26 : Cond.fieldLink RX8 26 "OneCup$Reader" "openStep" "[I" ∈ lw_good := gmem (i := 226) (by decide +kernel) rfl
theorem kf_X8_30 : Cond.fieldLink RX8 30 "OneCup$Reader" "openFrom" "[I" ∈ lw_good := gmem (i := 227) (by decide +kernel) rfl
theorem kf_X8_33 : Cond.fieldLink RX8 33 "OneCup$Reader" "openNumber" "[I" ∈ lw_good := gmem (i := 228) (by decide +kernel) rfl
theorem kf_X8_36 : Cond.fieldLink RX8 36 "OneCup$Reader" "openPlace" "[I" ∈ lw_good := gmem (i := 229) (by decide +kernel) rfl
theorem kc_X11_16 : Cond.classLink RX11 16 RX3 ∈ lw_good := gmem (i := 261) (by decide +kernel) rfl
theorem kq_X3 : Cond.instantiable RX3 6 ∈ lw_good := gmem (i := 262) (by decide +kernel) rfl
theorem kn_X11_18 : Cond.methodLinkNest RX11 18 yX3_init "OneCup" ∈ lw_tbl := List.mem_of_getElem? (i := 263) (by decide +kernel)
theorem ki_X3_init : Cond.instanceMethod yX3_init ∈ lw_good := gmem (i := 264) (by decide +kernel) rfl
theorem kd_X3_init : Cond.code yX3_init cX3_init 1 none ∈ lw_good := gmem (i := 265) (by decide +kernel) rfl
theorem km_X3_3 : Cond.methodLink RX3 3 objectInit ∈ lw_good := gmem (i := 266) (by decide +kernel) rfl
theorem kc_X3_9 : Cond.classLink RX3 9 RX9 ∈ lw_good := gmem (i := 267) (by decide +kernel) rfl
theorem kn_X3_11 : Cond.methodLinkNest RX3 11 yX9_init "OneCup" ∈ lw_tbl := List.mem_of_getElem? (i := 268) (by decide +kernel)
theorem kc_X3_18 : Cond.classLink RX3 18 RX5 ∈ lw_good := gmem (i := 269) (by decide +kernel) rfl
theorem kq_X5 : Cond.instantiable RX5 15 ∈ lw_good := gmem (i := 270) (by decide +kernel) rfl
theorem kn_X3_20 : Cond.methodLinkNest RX3 20 yX5_init "OneCup" ∈ lw_tbl := List.mem_of_getElem? (i := 271) (by decide +kernel)
theorem ki_X5_init : Cond.instanceMethod yX5_init ∈ lw_good := gmem (i := 272) (by decide +kernel) rfl
theorem kd_X5_init : Cond.code yX5_init cX5_init 1 none ∈ lw_good := gmem (i := 273) (by decide +kernel) rfl
theorem km_X5_3 : Cond.methodLink RX5 3 objectInit ∈ lw_good := gmem (i := 274) (by decide +kernel) rfl
theorem kf_X5_48 : Cond.fieldLink RX5 48 "OneCup$Log" "n" "I" ∈ lw_good := gmem (i := 275) (by decide +kernel) rfl
theorem kf_X2_25 : Cond.fieldLink RX2 25 "OneCup$Log" "n" "I" ∈ lw_good := gmem (i := 276) (by decide +kernel) rfl
theorem kf_X4_76 : Cond.fieldLink RX4 76 "OneCup$Log" "n" "I" ∈ lw_good := gmem (i := 277) (by decide +kernel) rfl
theorem kf_X1_52 : Cond.fieldLink RX1 52 "OneCup$Log" "n" "I" ∈ lw_good := gmem (i := 278) (by decide +kernel) rfl
theorem kf_X11_184 : Cond.fieldLink RX11 184 "OneCup$Log" "n" "I" ∈ lw_good := gmem (i := 279) (by decide +kernel) rfl
theorem kf_X5_9 : Cond.fieldLink RX5 9 "OneCup$Log" "hand" "[I" ∈ lw_good := gmem (i := 280) (by decide +kernel) rfl
theorem kf_X4_94 : Cond.fieldLink RX4 94 "OneCup$Log" "hand" "[I" ∈ lw_good := gmem (i := 281) (by decide +kernel) rfl
theorem kf_X2_59 : Cond.fieldLink RX2 59 "OneCup$Log" "hand" "[I" ∈ lw_good := gmem (i := 282) (by decide +kernel) rfl
theorem kf_X7_100 : Cond.fieldLink RX7 100 "OneCup$Log" "hand" "[I" ∈ lw_good := gmem (i := 283) (by decide +kernel) rfl
theorem kf_X11_204 : Cond.fieldLink RX11 204 "OneCup$Log" "hand" "[I" ∈ lw_good := gmem (i := 284) (by decide +kernel) rfl
theorem kf_X5_15 : Cond.fieldLink RX5 15 "OneCup$Log" "sort" "[I" ∈ lw_good := gmem (i := 285) (by decide +kernel) rfl
theorem kf_X4_110 : Cond.fieldLink RX4 110 "OneCup$Log" "sort" "[I" ∈ lw_good := gmem (i := 286) (by decide +kernel) rfl
theorem kf_X7_92 : Cond.fieldLink RX7 92 "OneCup$Log" "sort" "[I" ∈ lw_good := gmem (i := 287) (by decide +kernel) rfl
theorem kf_X2_71 : Cond.fieldLink RX2 71 "OneCup$Log" "sort" "[I" ∈ lw_good := gmem (i := 288) (by decide +kernel) rfl
theorem kf_X11_207 : Cond.fieldLink RX11 207 "OneCup$Log" "sort" "[I" ∈ lw_good := gmem (i := 289) (by decide +kernel) rfl
theorem kf_X5_18 : Cond.fieldLink RX5 18 "OneCup$Log" "arg" "[I" ∈ lw_good := gmem (i := 290) (by decide +kernel) rfl
theorem kf_X2_51 : Cond.fieldLink RX2 51 "OneCup$Log" "arg" "[I" ∈ lw_good := gmem (i := 291) (by decide +kernel) rfl
theorem kf_X4_107 : Cond.fieldLink RX4 107 "OneCup$Log" "arg" "[I" ∈ lw_good := gmem (i := 292) (by decide +kernel) rfl
theorem kf_X1_81 : Cond.fieldLink RX1 81 "OneCup$Log" "arg" "[I" ∈ lw_good := gmem (i := 293) (by decide +kernel) rfl
theorem kf_X7_97 : Cond.fieldLink RX7 97 "OneCup$Log" "arg" "[I" ∈ lw_good := gmem (i := 294) (by decide +kernel) rfl
theorem kf_X11_210 : Cond.fieldLink RX11 210 "OneCup$Log" "arg" "[I" ∈ lw_good := gmem (i := 295) (by decide +kernel) rfl
theorem kf_X5_21 : Cond.fieldLink RX5 21 "OneCup$Log" "value" "[I" ∈ lw_good := gmem (i := 296) (by decide +kernel) rfl
theorem kf_X11_213 : Cond.fieldLink RX11 213 "OneCup$Log" "value" "[I" ∈ lw_good := gmem (i := 297) (by decide +kernel) rfl
theorem kf_X5_24 : Cond.fieldLink RX5 24 "OneCup$Log" "place" "[I" ∈ lw_good := gmem (i := 298) (by decide +kernel) rfl
theorem kf_X1_75 : Cond.fieldLink RX1 75 "OneCup$Log" "place" "[I" ∈ lw_good := gmem (i := 299) (by decide +kernel) rfl
theorem kf_X11_216 : Cond.fieldLink RX11 216 "OneCup$Log" "place" "[I" ∈ lw_good := gmem (i := 300) (by decide +kernel) rfl
theorem kf_X5_27 : Cond.fieldLink RX5 27 "OneCup$Log" "ahead" "[I" ∈ lw_good := gmem (i := 301) (by decide +kernel) rfl
theorem kf_X2_62 : Cond.fieldLink RX2 62 "OneCup$Log" "ahead" "[I" ∈ lw_good := gmem (i := 302) (by decide +kernel) rfl
theorem kf_X7_103 : Cond.fieldLink RX7 103 "OneCup$Log" "ahead" "[I" ∈ lw_good := gmem (i := 303) (by decide +kernel) rfl
theorem kf_X4_120 : Cond.fieldLink RX4 120 "OneCup$Log" "ahead" "[I" ∈ lw_good := gmem (i := 304) (by decide +kernel) rfl
theorem kf_X11_219 : Cond.fieldLink RX11 219 "OneCup$Log" "ahead" "[I" ∈ lw_good := gmem (i := 305) (by decide +kernel) rfl
theorem kf_X5_30 : Cond.fieldLink RX5 30 "OneCup$Log" "bolts" "[I" ∈ lw_good := gmem (i := 306) (by decide +kernel) rfl
theorem kf_X7_131 : Cond.fieldLink RX7 131 "OneCup$Log" "bolts" "[I" ∈ lw_good := gmem (i := 307) (by decide +kernel) rfl
theorem kf_X11_222 : Cond.fieldLink RX11 222 "OneCup$Log" "bolts" "[I" ∈ lw_good := gmem (i := 308) (by decide +kernel) rfl
theorem kf_X5_33 : Cond.fieldLink RX5 33 "OneCup$Log" "cells" "[I" ∈ lw_good := gmem (i := 309) (by decide +kernel) rfl
theorem kf_X11_228 : Cond.fieldLink RX11 228 "OneCup$Log" "cells" "[I" ∈ lw_good := gmem (i := 310) (by decide +kernel) rfl
theorem kf_X5_58 : Cond.fieldLink RX5 58 "OneCup$Log" "stuck" "I" ∈ lw_good := gmem (i := 311) (by decide +kernel) rfl
theorem kf_X11_231 : Cond.fieldLink RX11 231 "OneCup$Log" "stuck" "I" ∈ lw_good := gmem (i := 312) (by decide +kernel) rfl
theorem kf_X5_61 : Cond.fieldLink RX5 61 "OneCup$Log" "joined" "Z" ∈ lw_good := gmem (i := 313) (by decide +kernel) rfl
theorem kf_X11_361 : Cond.fieldLink RX11 361 "OneCup$Log" "joined" "Z" ∈ lw_good := gmem (i := 314) (by decide +kernel) rfl
theorem kf_X5_36 : Cond.fieldLink RX5 36 "OneCup$Log" "done" "[I" ∈ lw_good := gmem (i := 315) (by decide +kernel) rfl
theorem kf_X5_39 : Cond.fieldLink RX5 39 "OneCup$Log" "entered" "[I" ∈ lw_good := gmem (i := 316) (by decide +kernel) rfl
theorem kf_X5_42 : Cond.fieldLink RX5 42 "OneCup$Log" "openCount" "[I" ∈ lw_good := gmem (i := 317) (by decide +kernel) rfl
theorem kf_X5_45 : Cond.fieldLink RX5 45 "OneCup$Log" "openGate" "[I" ∈ lw_good := gmem (i := 318) (by decide +kernel) rfl
theorem kc_X3_25 : Cond.classLink RX3 25 RX1 ∈ lw_good := gmem (i := 350) (by decide +kernel) rfl
theorem kq_X1 : Cond.instantiable RX1 9 ∈ lw_good := gmem (i := 351) (by decide +kernel) rfl
theorem kn_X3_27 : Cond.methodLinkNest RX3 27 yX1_init "OneCup" ∈ lw_tbl := List.mem_of_getElem? (i := 352) (by decide +kernel)
theorem ki_X1_init : Cond.instanceMethod yX1_init ∈ lw_good := gmem (i := 353) (by decide +kernel) rfl
theorem kd_X1_init : Cond.code yX1_init cX1_init 1 none ∈ lw_good := gmem (i := 354) (by decide +kernel) rfl
theorem km_X1_3 : Cond.methodLink RX1 3 objectInit ∈ lw_good := gmem (i := 355) (by decide +kernel) rfl
theorem kf_X1_33 : Cond.fieldLink RX1 33 "OneCup$Book" "n" "I" ∈ lw_good := gmem (i := 356) (by decide +kernel) rfl
theorem kf_X11_374 : Cond.fieldLink RX11 374 "OneCup$Book" "n" "I" ∈ lw_good := gmem (i := 357) (by decide +kernel) rfl
theorem kf_X1_37 : Cond.fieldLink RX1 37 "OneCup$Book" "logs" "I" ∈ lw_good := gmem (i := 358) (by decide +kernel) rfl
theorem kf_X11_396 : Cond.fieldLink RX11 396 "OneCup$Book" "logs" "I" ∈ lw_good := gmem (i := 359) (by decide +kernel) rfl
theorem kf_X1_9 : Cond.fieldLink RX1 9 "OneCup$Book" "low" "[I" ∈ lw_good := gmem (i := 360) (by decide +kernel) rfl
theorem kf_X11_375 : Cond.fieldLink RX11 375 "OneCup$Book" "low" "[I" ∈ lw_good := gmem (i := 361) (by decide +kernel) rfl
theorem kf_X1_15 : Cond.fieldLink RX1 15 "OneCup$Book" "high" "[I" ∈ lw_good := gmem (i := 362) (by decide +kernel) rfl
theorem kf_X11_378 : Cond.fieldLink RX11 378 "OneCup$Book" "high" "[I" ∈ lw_good := gmem (i := 363) (by decide +kernel) rfl
theorem kf_X1_18 : Cond.fieldLink RX1 18 "OneCup$Book" "about" "[I" ∈ lw_good := gmem (i := 364) (by decide +kernel) rfl
theorem kf_X11_381 : Cond.fieldLink RX11 381 "OneCup$Book" "about" "[I" ∈ lw_good := gmem (i := 365) (by decide +kernel) rfl
theorem kf_X1_21 : Cond.fieldLink RX1 21 "OneCup$Book" "times" "[I" ∈ lw_good := gmem (i := 366) (by decide +kernel) rfl
theorem kf_X11_384 : Cond.fieldLink RX11 384 "OneCup$Book" "times" "[I" ∈ lw_good := gmem (i := 367) (by decide +kernel) rfl
theorem kf_X1_24 : Cond.fieldLink RX1 24 "OneCup$Book" "from" "[I" ∈ lw_good := gmem (i := 368) (by decide +kernel) rfl
theorem kf_X11_387 : Cond.fieldLink RX11 387 "OneCup$Book" "from" "[I" ∈ lw_good := gmem (i := 369) (by decide +kernel) rfl
theorem kf_X1_27 : Cond.fieldLink RX1 27 "OneCup$Book" "till" "[I" ∈ lw_good := gmem (i := 370) (by decide +kernel) rfl
theorem kf_X11_390 : Cond.fieldLink RX11 390 "OneCup$Book" "till" "[I" ∈ lw_good := gmem (i := 371) (by decide +kernel) rfl
theorem kf_X1_30 : Cond.fieldLink RX1 30 "OneCup$Book" "marked" "[I" ∈ lw_good := gmem (i := 372) (by decide +kernel) rfl
theorem kf_X3_12 : Cond.fieldLink RX3 12 "OneCup$Evening" "script" "LOneCup$Script;" ∈ lw_good := gmem (i := 392) (by decide +kernel) rfl
theorem kf_X11_106 : Cond.fieldLink RX11 106 "OneCup$Evening" "script" "LOneCup$Script;" ∈ lw_good := gmem (i := 393) (by decide +kernel) rfl
theorem kf_X3_21 : Cond.fieldLink RX3 21 "OneCup$Evening" "log" "LOneCup$Log;" ∈ lw_good := gmem (i := 394) (by decide +kernel) rfl
theorem kf_X11_86 : Cond.fieldLink RX11 86 "OneCup$Evening" "log" "LOneCup$Log;" ∈ lw_good := gmem (i := 395) (by decide +kernel) rfl
theorem kf_X3_28 : Cond.fieldLink RX3 28 "OneCup$Evening" "book" "LOneCup$Book;" ∈ lw_good := gmem (i := 396) (by decide +kernel) rfl
theorem kf_X11_364 : Cond.fieldLink RX11 364 "OneCup$Evening" "book" "LOneCup$Book;" ∈ lw_good := gmem (i := 397) (by decide +kernel) rfl
theorem kf_X3_32 : Cond.fieldLink RX3 32 "OneCup$Evening" "laws" "I" ∈ lw_good := gmem (i := 398) (by decide +kernel) rfl
theorem kf_X11_234 : Cond.fieldLink RX11 234 "OneCup$Evening" "laws" "I" ∈ lw_good := gmem (i := 399) (by decide +kernel) rfl
theorem kf_X3_46 : Cond.fieldLink RX3 46 "OneCup$Evening" "runCount" "I" ∈ lw_good := gmem (i := 400) (by decide +kernel) rfl
theorem kf_X11_181 : Cond.fieldLink RX11 181 "OneCup$Evening" "runCount" "I" ∈ lw_good := gmem (i := 401) (by decide +kernel) rfl
theorem kf_X3_49 : Cond.fieldLink RX3 49 "OneCup$Evening" "idle" "I" ∈ lw_good := gmem (i := 402) (by decide +kernel) rfl
theorem kf_X11_163 : Cond.fieldLink RX11 163 "OneCup$Evening" "idle" "I" ∈ lw_good := gmem (i := 403) (by decide +kernel) rfl
theorem kc_X11_27 : Cond.classLink RX11 27 RX4 ∈ lw_good := gmem (i := 418) (by decide +kernel) rfl
theorem kq_X4 : Cond.instantiable RX4 19 ∈ lw_good := gmem (i := 419) (by decide +kernel) rfl
theorem kn_X11_29 : Cond.methodLinkNest RX11 29 yX4_init "OneCup" ∈ lw_tbl := List.mem_of_getElem? (i := 420) (by decide +kernel)
theorem ki_X4_init : Cond.instanceMethod yX4_init ∈ lw_good := gmem (i := 421) (by decide +kernel) rfl
theorem kd_X4_init : Cond.code yX4_init cX4_init 1 none ∈ lw_good := gmem (i := 422) (by decide +kernel) rfl
theorem km_X4_5 : Cond.methodLink RX4 5 objectInit ∈ lw_good := gmem (i := 423) (by decide +kernel) rfl
theorem kf_X4_11 : Cond.fieldLink RX4 11 "OneCup$Links" "own" "[I" ∈ lw_good := gmem (i := 424) (by decide +kernel) rfl
theorem kf_X2_68 : Cond.fieldLink RX2 68 "OneCup$Links" "own" "[I" ∈ lw_good := gmem (i := 425) (by decide +kernel) rfl
theorem kf_X4_15 : Cond.fieldLink RX4 15 "OneCup$Links" "cross" "[I" ∈ lw_good := gmem (i := 426) (by decide +kernel) rfl
theorem kf_X2_77 : Cond.fieldLink RX2 77 "OneCup$Links" "cross" "[I" ∈ lw_good := gmem (i := 427) (by decide +kernel) rfl
theorem kf_X7_128 : Cond.fieldLink RX7 128 "OneCup$Links" "cross" "[I" ∈ lw_good := gmem (i := 428) (by decide +kernel) rfl
theorem kf_X4_18 : Cond.fieldLink RX4 18 "OneCup$Links" "previous" "[I" ∈ lw_good := gmem (i := 429) (by decide +kernel) rfl
theorem kf_X2_54 : Cond.fieldLink RX2 54 "OneCup$Links" "previous" "[I" ∈ lw_good := gmem (i := 430) (by decide +kernel) rfl
theorem kf_X7_125 : Cond.fieldLink RX7 125 "OneCup$Links" "previous" "[I" ∈ lw_good := gmem (i := 431) (by decide +kernel) rfl
theorem kf_X11_272 : Cond.fieldLink RX11 272 "OneCup$Links" "previous" "[I" ∈ lw_good := gmem (i := 432) (by decide +kernel) rfl
theorem kf_X4_21 : Cond.fieldLink RX4 21 "OneCup$Links" "following" "[I" ∈ lw_good := gmem (i := 433) (by decide +kernel) rfl
theorem kf_X4_24 : Cond.fieldLink RX4 24 "OneCup$Links" "saw" "[I" ∈ lw_good := gmem (i := 434) (by decide +kernel) rfl
theorem kf_X7_119 : Cond.fieldLink RX7 119 "OneCup$Links" "saw" "[I" ∈ lw_good := gmem (i := 435) (by decide +kernel) rfl
theorem kf_X4_27 : Cond.fieldLink RX4 27 "OneCup$Links" "ofHand" "[I" ∈ lw_good := gmem (i := 436) (by decide +kernel) rfl
theorem kf_X7_87 : Cond.fieldLink RX7 87 "OneCup$Links" "ofHand" "[I" ∈ lw_good := gmem (i := 437) (by decide +kernel) rfl
theorem kf_X4_30 : Cond.fieldLink RX4 30 "OneCup$Links" "total" "[I" ∈ lw_good := gmem (i := 438) (by decide +kernel) rfl
theorem kf_X7_116 : Cond.fieldLink RX7 116 "OneCup$Links" "total" "[I" ∈ lw_good := gmem (i := 439) (by decide +kernel) rfl
theorem kf_X4_33 : Cond.fieldLink RX4 33 "OneCup$Links" "startOf" "[I" ∈ lw_good := gmem (i := 440) (by decide +kernel) rfl
theorem kf_X7_106 : Cond.fieldLink RX7 106 "OneCup$Links" "startOf" "[I" ∈ lw_good := gmem (i := 441) (by decide +kernel) rfl
theorem kf_X4_36 : Cond.fieldLink RX4 36 "OneCup$Links" "firstOf" "[I" ∈ lw_good := gmem (i := 442) (by decide +kernel) rfl
theorem kf_X4_39 : Cond.fieldLink RX4 39 "OneCup$Links" "lastOf" "[I" ∈ lw_good := gmem (i := 443) (by decide +kernel) rfl
theorem kf_X4_42 : Cond.fieldLink RX4 42 "OneCup$Links" "lastWrite" "[I" ∈ lw_good := gmem (i := 444) (by decide +kernel) rfl
theorem kf_X4_45 : Cond.fieldLink RX4 45 "OneCup$Links" "lastTurn" "[I" ∈ lw_good := gmem (i := 445) (by decide +kernel) rfl
theorem kf_X4_48 : Cond.fieldLink RX4 48 "OneCup$Links" "touches" "[I" ∈ lw_good := gmem (i := 446) (by decide +kernel) rfl
theorem kf_X2_91 : Cond.fieldLink RX2 91 "OneCup$Links" "touches" "[I" ∈ lw_good := gmem (i := 447) (by decide +kernel) rfl
theorem kf_X4_51 : Cond.fieldLink RX4 51 "OneCup$Links" "passed" "[I" ∈ lw_good := gmem (i := 448) (by decide +kernel) rfl
theorem kf_X2_88 : Cond.fieldLink RX2 88 "OneCup$Links" "passed" "[I" ∈ lw_good := gmem (i := 449) (by decide +kernel) rfl
theorem kf_X4_69 : Cond.fieldLink RX4 69 "OneCup$Links" "marksUsed" "I" ∈ lw_good := gmem (i := 450) (by decide +kernel) rfl
theorem kf_X11_351 : Cond.fieldLink RX11 351 "OneCup$Links" "marksUsed" "I" ∈ lw_good := gmem (i := 451) (by decide +kernel) rfl
theorem kf_X4_73 : Cond.fieldLink RX4 73 "OneCup$Links" "cellsTouched" "I" ∈ lw_good := gmem (i := 452) (by decide +kernel) rfl
theorem kf_X11_354 : Cond.fieldLink RX11 354 "OneCup$Links" "cellsTouched" "I" ∈ lw_good := gmem (i := 453) (by decide +kernel) rfl
theorem kf_X4_54 : Cond.fieldLink RX4 54 "OneCup$Links" "node" "[I" ∈ lw_good := gmem (i := 454) (by decide +kernel) rfl
theorem kf_X4_57 : Cond.fieldLink RX4 57 "OneCup$Links" "within" "[I" ∈ lw_good := gmem (i := 455) (by decide +kernel) rfl
theorem kf_X4_60 : Cond.fieldLink RX4 60 "OneCup$Links" "reached" "[I" ∈ lw_good := gmem (i := 456) (by decide +kernel) rfl
theorem kc_X11_34 : Cond.classLink RX11 34 RX2 ∈ lw_good := gmem (i := 496) (by decide +kernel) rfl
theorem kq_X2 : Cond.instantiable RX2 4 ∈ lw_good := gmem (i := 497) (by decide +kernel) rfl
theorem kn_X11_36 : Cond.methodLinkNest RX11 36 yX2_init "OneCup" ∈ lw_tbl := List.mem_of_getElem? (i := 498) (by decide +kernel)
theorem ki_X2_init : Cond.instanceMethod yX2_init ∈ lw_good := gmem (i := 499) (by decide +kernel) rfl
theorem kd_X2_init : Cond.code yX2_init cX2_init 1 none ∈ lw_good := gmem (i := 500) (by decide +kernel) rfl
theorem km_X2_3 : Cond.methodLink RX2 3 objectInit ∈ lw_good := gmem (i := 501) (by decide +kernel) rfl
theorem kf_X2_9 : Cond.fieldLink RX2 9 "OneCup$Clocks" "clock" "[I" ∈ lw_good := gmem (i := 502) (by decide +kernel) rfl
theorem kf_X2_15 : Cond.fieldLink RX2 15 "OneCup$Clocks" "steps" "[I" ∈ lw_good := gmem (i := 503) (by decide +kernel) rfl
theorem kf_X2_18 : Cond.fieldLink RX2 18 "OneCup$Clocks" "laws" "I" ∈ lw_good := gmem (i := 504) (by decide +kernel) rfl
theorem kf_X2_22 : Cond.fieldLink RX2 22 "OneCup$Clocks" "marks" "I" ∈ lw_good := gmem (i := 505) (by decide +kernel) rfl
theorem kc_X11_44 : Cond.classLink RX11 44 RX6 ∈ lw_good := gmem (i := 515) (by decide +kernel) rfl
theorem kq_X6 : Cond.instantiable RX6 7 ∈ lw_good := gmem (i := 516) (by decide +kernel) rfl
theorem kn_X11_46 : Cond.methodLinkNest RX11 46 yX6_init "OneCup" ∈ lw_tbl := List.mem_of_getElem? (i := 517) (by decide +kernel)
theorem ki_X6_init : Cond.instanceMethod yX6_init ∈ lw_good := gmem (i := 518) (by decide +kernel) rfl
theorem kd_X6_init : Cond.code yX6_init cX6_init 1 none ∈ lw_good := gmem (i := 519) (by decide +kernel) rfl
theorem km_X6_3 : Cond.methodLink RX6 3 objectInit ∈ lw_good := gmem (i := 520) (by decide +kernel) rfl
theorem kf_X6_9 : Cond.fieldLink RX6 9 "OneCup$Machine" "cells" "[I" ∈ lw_good := gmem (i := 521) (by decide +kernel) rfl
theorem kf_X5_86 : Cond.fieldLink RX5 86 "OneCup$Machine" "cells" "[I" ∈ lw_good := gmem (i := 522) (by decide +kernel) rfl
theorem kf_X11_302 : Cond.fieldLink RX11 302 "OneCup$Machine" "cells" "[I" ∈ lw_good := gmem (i := 523) (by decide +kernel) rfl
theorem kf_X6_27 : Cond.fieldLink RX6 27 "OneCup$Machine" "script" "LOneCup$Script;" ∈ lw_good := gmem (i := 524) (by decide +kernel) rfl
theorem kf_X6_15 : Cond.fieldLink RX6 15 "OneCup$Machine" "next" "[I" ∈ lw_good := gmem (i := 525) (by decide +kernel) rfl
theorem kf_X6_18 : Cond.fieldLink RX6 18 "OneCup$Machine" "moved" "[I" ∈ lw_good := gmem (i := 526) (by decide +kernel) rfl
theorem kf_X6_21 : Cond.fieldLink RX6 21 "OneCup$Machine" "holder" "[I" ∈ lw_good := gmem (i := 527) (by decide +kernel) rfl
theorem kf_X6_24 : Cond.fieldLink RX6 24 "OneCup$Machine" "notes" "[I" ∈ lw_good := gmem (i := 528) (by decide +kernel) rfl
theorem kf_X6_37 : Cond.fieldLink RX6 37 "OneCup$Machine" "started" "I" ∈ lw_good := gmem (i := 529) (by decide +kernel) rfl
theorem kc_X11_54 : Cond.classLink RX11 54 RX10 ∈ lw_good := gmem (i := 545) (by decide +kernel) rfl
theorem kq_X10 : Cond.instantiable RX10 6 ∈ lw_good := gmem (i := 546) (by decide +kernel) rfl
theorem kn_X11_56 : Cond.methodLinkNest RX11 56 yX10_init "OneCup" ∈ lw_tbl := List.mem_of_getElem? (i := 547) (by decide +kernel)
theorem ki_X10_init : Cond.instanceMethod yX10_init ∈ lw_good := gmem (i := 548) (by decide +kernel) rfl
theorem kd_X10_init : Cond.code yX10_init cX10_init 1 none ∈ lw_good := gmem (i := 549) (by decide +kernel) rfl
theorem km_X10_3 : Cond.methodLink RX10 3 objectInit ∈ lw_good := gmem (i := 550) (by decide +kernel) rfl
theorem kk_X10_11 : Cond.constant RX10 11 (51000) ∈ lw_good := gmem (i := 551) (by decide +kernel) rfl
theorem kf_X10_27 : Cond.fieldLink RX10 27 "OneCup$Visited" "n" "I" ∈ lw_good := gmem (i := 552) (by decide +kernel) rfl
theorem kf_X0_64 : Cond.fieldLink RX0 64 "OneCup$Visited" "n" "I" ∈ lw_good := gmem (i := 553) (by decide +kernel) rfl
theorem kf_X7_51 : Cond.fieldLink RX7 51 "OneCup$Visited" "n" "I" ∈ lw_good := gmem (i := 554) (by decide +kernel) rfl
theorem kf_X11_282 : Cond.fieldLink RX11 282 "OneCup$Visited" "n" "I" ∈ lw_good := gmem (i := 555) (by decide +kernel) rfl
theorem kf_X10_40 : Cond.fieldLink RX10 40 "OneCup$Visited" "width" "I" ∈ lw_good := gmem (i := 556) (by decide +kernel) rfl
theorem kf_X10_12 : Cond.fieldLink RX10 12 "OneCup$Visited" "states" "[I" ∈ lw_good := gmem (i := 557) (by decide +kernel) rfl
theorem kf_X10_18 : Cond.fieldLink RX10 18 "OneCup$Visited" "parent" "[I" ∈ lw_good := gmem (i := 558) (by decide +kernel) rfl
theorem kf_X10_21 : Cond.fieldLink RX10 21 "OneCup$Visited" "hand" "[I" ∈ lw_good := gmem (i := 559) (by decide +kernel) rfl
theorem kf_X10_24 : Cond.fieldLink RX10 24 "OneCup$Visited" "table" "[I" ∈ lw_good := gmem (i := 560) (by decide +kernel) rfl
theorem kc_X11_61 : Cond.classLink RX11 61 RX7 ∈ lw_good := gmem (i := 574) (by decide +kernel) rfl
theorem kq_X7 : Cond.instantiable RX7 8 ∈ lw_good := gmem (i := 575) (by decide +kernel) rfl
theorem kn_X11_63 : Cond.methodLinkNest RX11 63 yX7_init "OneCup" ∈ lw_tbl := List.mem_of_getElem? (i := 576) (by decide +kernel)
theorem ki_X7_init : Cond.instanceMethod yX7_init ∈ lw_good := gmem (i := 577) (by decide +kernel) rfl
theorem kd_X7_init : Cond.code yX7_init cX7_init 1 none ∈ lw_good := gmem (i := 578) (by decide +kernel) rfl
theorem km_X7_3 : Cond.methodLink RX7 3 objectInit ∈ lw_good := gmem (i := 579) (by decide +kernel) rfl
theorem kf_X7_9 : Cond.fieldLink RX7 9 "OneCup$Orders" "shownHand" "[I" ∈ lw_good := gmem (i := 580) (by decide +kernel) rfl
theorem kf_X11_289 : Cond.fieldLink RX11 289 "OneCup$Orders" "shownHand" "[I" ∈ lw_good := gmem (i := 581) (by decide +kernel) rfl
theorem kf_X7_74 : Cond.fieldLink RX7 74 "OneCup$Orders" "shownLength" "I" ∈ lw_good := gmem (i := 582) (by decide +kernel) rfl
theorem kf_X11_286 : Cond.fieldLink RX11 286 "OneCup$Orders" "shownLength" "I" ∈ lw_good := gmem (i := 583) (by decide +kernel) rfl
theorem kf_X7_77 : Cond.fieldLink RX7 77 "OneCup$Orders" "has" "Z" ∈ lw_good := gmem (i := 584) (by decide +kernel) rfl
theorem kf_X11_197 : Cond.fieldLink RX11 197 "OneCup$Orders" "has" "Z" ∈ lw_good := gmem (i := 585) (by decide +kernel) rfl
theorem kf_X7_81 : Cond.fieldLink RX7 81 "OneCup$Orders" "one" "I" ∈ lw_good := gmem (i := 586) (by decide +kernel) rfl
theorem kf_X11_292 : Cond.fieldLink RX11 292 "OneCup$Orders" "one" "I" ∈ lw_good := gmem (i := 587) (by decide +kernel) rfl
theorem kf_X7_84 : Cond.fieldLink RX7 84 "OneCup$Orders" "two" "I" ∈ lw_good := gmem (i := 588) (by decide +kernel) rfl
theorem kf_X11_295 : Cond.fieldLink RX11 295 "OneCup$Orders" "two" "I" ∈ lw_good := gmem (i := 589) (by decide +kernel) rfl
theorem kf_X7_15 : Cond.fieldLink RX7 15 "OneCup$Orders" "done" "[I" ∈ lw_good := gmem (i := 590) (by decide +kernel) rfl
theorem kf_X7_18 : Cond.fieldLink RX7 18 "OneCup$Orders" "wrote" "[I" ∈ lw_good := gmem (i := 591) (by decide +kernel) rfl
theorem kf_X7_21 : Cond.fieldLink RX7 21 "OneCup$Orders" "state" "[I" ∈ lw_good := gmem (i := 592) (by decide +kernel) rfl
theorem kc_X11_68 : Cond.classLink RX11 68 RX0 ∈ lw_good := gmem (i := 610) (by decide +kernel) rfl
theorem kq_X0 : Cond.instantiable RX0 12 ∈ lw_good := gmem (i := 611) (by decide +kernel) rfl
theorem kn_X11_70 : Cond.methodLinkNest RX11 70 yX0_init "OneCup" ∈ lw_tbl := List.mem_of_getElem? (i := 612) (by decide +kernel)
theorem ki_X0_init : Cond.instanceMethod yX0_init ∈ lw_good := gmem (i := 613) (by decide +kernel) rfl
theorem kd_X0_init : Cond.code yX0_init cX0_init 1 none ∈ lw_good := gmem (i := 614) (by decide +kernel) rfl
theorem km_X0_3 : Cond.methodLink RX0 3 objectInit ∈ lw_good := gmem (i := 615) (by decide +kernel) rfl
theorem kf_X0_29 : Cond.fieldLink RX0 29 "OneCup$AllRuns" "gone" "Z" ∈ lw_good := gmem (i := 616) (by decide +kernel) rfl
theorem kf_X11_124 : Cond.fieldLink RX11 124 "OneCup$AllRuns" "gone" "Z" ∈ lw_good := gmem (i := 617) (by decide +kernel) rfl
theorem kf_X0_33 : Cond.fieldLink RX0 33 "OneCup$AllRuns" "spent" "Z" ∈ lw_good := gmem (i := 618) (by decide +kernel) rfl
theorem kf_X11_323 : Cond.fieldLink RX11 323 "OneCup$AllRuns" "spent" "Z" ∈ lw_good := gmem (i := 619) (by decide +kernel) rfl
theorem kf_X0_71 : Cond.fieldLink RX0 71 "OneCup$AllRuns" "states" "I" ∈ lw_good := gmem (i := 620) (by decide +kernel) rfl
theorem kf_X11_342 : Cond.fieldLink RX11 342 "OneCup$AllRuns" "states" "I" ∈ lw_good := gmem (i := 621) (by decide +kernel) rfl
theorem kf_X0_36 : Cond.fieldLink RX0 36 "OneCup$AllRuns" "endCount" "I" ∈ lw_good := gmem (i := 622) (by decide +kernel) rfl
theorem kf_X11_326 : Cond.fieldLink RX11 326 "OneCup$AllRuns" "endCount" "I" ∈ lw_good := gmem (i := 623) (by decide +kernel) rfl
theorem kf_X0_9 : Cond.fieldLink RX0 9 "OneCup$AllRuns" "ledHand" "[I" ∈ lw_good := gmem (i := 624) (by decide +kernel) rfl
theorem kf_X11_335 : Cond.fieldLink RX11 335 "OneCup$AllRuns" "ledHand" "[I" ∈ lw_good := gmem (i := 625) (by decide +kernel) rfl
theorem kf_X0_114 : Cond.fieldLink RX0 114 "OneCup$AllRuns" "ledLength" "I" ∈ lw_good := gmem (i := 626) (by decide +kernel) rfl
theorem kf_X11_332 : Cond.fieldLink RX11 332 "OneCup$AllRuns" "ledLength" "I" ∈ lw_good := gmem (i := 627) (by decide +kernel) rfl
theorem kf_X0_40 : Cond.fieldLink RX0 40 "OneCup$AllRuns" "waiting" "I" ∈ lw_good := gmem (i := 628) (by decide +kernel) rfl
theorem kf_X0_15 : Cond.fieldLink RX0 15 "OneCup$AllRuns" "path" "[I" ∈ lw_good := gmem (i := 629) (by decide +kernel) rfl
theorem kf_X0_43 : Cond.fieldLink RX0 43 "OneCup$AllRuns" "pathLength" "I" ∈ lw_good := gmem (i := 630) (by decide +kernel) rfl
theorem kf_X0_20 : Cond.fieldLink RX0 20 "OneCup$AllRuns" "state" "[I" ∈ lw_good := gmem (i := 631) (by decide +kernel) rfl
theorem kf_X0_23 : Cond.fieldLink RX0 23 "OneCup$AllRuns" "endState" "[I" ∈ lw_good := gmem (i := 632) (by decide +kernel) rfl
theorem kf_X0_26 : Cond.fieldLink RX0 26 "OneCup$AllRuns" "endStuck" "[I" ∈ lw_good := gmem (i := 633) (by decide +kernel) rfl
theorem km_X11_90 : Cond.methodLink RX11 90 yX4_build ∈ lw_good := gmem (i := 659) (by decide +kernel) rfl
theorem ki_X4_build : Cond.instanceMethod yX4_build ∈ lw_good := gmem (i := 660) (by decide +kernel) rfl
theorem ks_X4_build : Cond.selects RX4 yX4_build yX4_build ∈ lw_good := gmem (i := 661) (by decide +kernel) rfl
theorem kd_X4_build : Cond.code yX4_build cX4_build 3 none ∈ lw_good := gmem (i := 662) (by decide +kernel) rfl
theorem km_X4_63 : Cond.methodLink RX4 63 yJ7_fill_53178 ∈ lw_good := gmem (i := 663) (by decide +kernel) rfl
theorem kt_J7_fill_53178 : Cond.static yJ7_fill_53178 ∈ lw_good := gmem (i := 664) (by decide +kernel) rfl
theorem kd_J7_fill_53178 : Cond.code yJ7_fill_53178 cJ7_fill_53178 4 none ∈ lw_good := gmem (i := 665) (by decide +kernel) rfl
theorem km_X4_81 : Cond.methodLink RX4 81 yX4_linkOwn ∈ lw_good := gmem (i := 666) (by decide +kernel) rfl
theorem ki_X4_linkOwn : Cond.instanceMethod yX4_linkOwn ∈ lw_good := gmem (i := 668) (by decide +kernel) rfl
theorem kd_X4_linkOwn : Cond.code yX4_linkOwn cX4_linkOwn 6 none ∈ lw_good := gmem (i := 669) (by decide +kernel) rfl
theorem km_X4_97 : Cond.methodLink RX4 97 arraycopyName ∈ lw_good := gmem (i := 670) (by decide +kernel) rfl
theorem kt_arraycopy : Cond.static arraycopyName ∈ lw_good := gmem (i := 671) (by decide +kernel) rfl
theorem kv_arraycopy : Cond.native arraycopyName ∈ lw_good := gmem (i := 672) (by decide +kernel) rfl
theorem km_X4_103 : Cond.methodLink RX4 103 yX5_isTouch ∈ lw_good := gmem (i := 673) (by decide +kernel) rfl
theorem ki_X5_isTouch : Cond.instanceMethod yX5_isTouch ∈ lw_good := gmem (i := 674) (by decide +kernel) rfl
theorem ks_X5_isTouch : Cond.selects RX5 yX5_isTouch yX5_isTouch ∈ lw_good := gmem (i := 675) (by decide +kernel) rfl
theorem kd_X5_isTouch : Cond.code yX5_isTouch cX5_isTouch 2 (some .boolean) ∈ lw_good := gmem (i := 676) (by decide +kernel) rfl
theorem km_X4_85 : Cond.methodLink RX4 85 yX4_linkPrevious ∈ lw_good := gmem (i := 677) (by decide +kernel) rfl
theorem ki_X4_linkPrevious : Cond.instanceMethod yX4_linkPrevious ∈ lw_good := gmem (i := 679) (by decide +kernel) rfl
theorem kd_X4_linkPrevious : Cond.code yX4_linkPrevious cX4_linkPrevious 5 none ∈ lw_good := gmem (i := 680) (by decide +kernel) rfl
theorem km_X4_113 : Cond.methodLink RX4 113 yX4_keyOf ∈ lw_good := gmem (i := 681) (by decide +kernel) rfl
theorem kt_X4_keyOf : Cond.static yX4_keyOf ∈ lw_good := gmem (i := 682) (by decide +kernel) rfl
theorem kd_X4_keyOf : Cond.code yX4_keyOf cX4_keyOf 2 (some .int) ∈ lw_good := gmem (i := 683) (by decide +kernel) rfl
theorem km_X4_88 : Cond.methodLink RX4 88 yX4_linkCross ∈ lw_good := gmem (i := 684) (by decide +kernel) rfl
theorem ki_X4_linkCross : Cond.instanceMethod yX4_linkCross ∈ lw_good := gmem (i := 686) (by decide +kernel) rfl
theorem kd_X4_linkCross : Cond.code yX4_linkCross cX4_linkCross 4 none ∈ lw_good := gmem (i := 687) (by decide +kernel) rfl
theorem km_X4_117 : Cond.methodLink RX4 117 yX4_sendFor ∈ lw_good := gmem (i := 688) (by decide +kernel) rfl
theorem ki_X4_sendFor : Cond.instanceMethod yX4_sendFor ∈ lw_good := gmem (i := 690) (by decide +kernel) rfl
theorem kd_X4_sendFor : Cond.code yX4_sendFor cX4_sendFor 5 (some .int) ∈ lw_good := gmem (i := 691) (by decide +kernel) rfl
theorem km_X4_91 : Cond.methodLink RX4 91 yX4_linkNode ∈ lw_good := gmem (i := 692) (by decide +kernel) rfl
theorem ki_X4_linkNode : Cond.instanceMethod yX4_linkNode ∈ lw_good := gmem (i := 694) (by decide +kernel) rfl
theorem kd_X4_linkNode : Cond.code yX4_linkNode cX4_linkNode 5 none ∈ lw_good := gmem (i := 695) (by decide +kernel) rfl
theorem kf_X11_12 : Cond.fieldLink RX11 12 "OneCup" "reader" "LOneCup$Reader;" ∈ lw_good := gmem (i := 696) (by decide +kernel) rfl
theorem kf_X11_19 : Cond.fieldLink RX11 19 "OneCup" "now" "LOneCup$Evening;" ∈ lw_good := gmem (i := 697) (by decide +kernel) rfl
theorem kf_X11_23 : Cond.fieldLink RX11 23 "OneCup" "images" "[LOneCup$Evening;" ∈ lw_good := gmem (i := 698) (by decide +kernel) rfl
theorem kf_X11_30 : Cond.fieldLink RX11 30 "OneCup" "links" "LOneCup$Links;" ∈ lw_good := gmem (i := 699) (by decide +kernel) rfl
theorem kf_X11_37 : Cond.fieldLink RX11 37 "OneCup" "clocks" "LOneCup$Clocks;" ∈ lw_good := gmem (i := 700) (by decide +kernel) rfl
theorem kf_X11_41 : Cond.fieldLink RX11 41 "OneCup" "trial" "LOneCup$Clocks;" ∈ lw_good := gmem (i := 701) (by decide +kernel) rfl
theorem kf_X11_194 : Cond.fieldLink RX11 194 "OneCup" "clocksStand" "Z" ∈ lw_good := gmem (i := 702) (by decide +kernel) rfl
theorem kf_X11_47 : Cond.fieldLink RX11 47 "OneCup" "machine" "LOneCup$Machine;" ∈ lw_good := gmem (i := 703) (by decide +kernel) rfl
theorem kf_X11_51 : Cond.fieldLink RX11 51 "OneCup" "other" "LOneCup$Machine;" ∈ lw_good := gmem (i := 704) (by decide +kernel) rfl
theorem kf_X11_57 : Cond.fieldLink RX11 57 "OneCup" "visited" "LOneCup$Visited;" ∈ lw_good := gmem (i := 705) (by decide +kernel) rfl
theorem kf_X11_64 : Cond.fieldLink RX11 64 "OneCup" "orders" "LOneCup$Orders;" ∈ lw_good := gmem (i := 706) (by decide +kernel) rfl
theorem kf_X11_71 : Cond.fieldLink RX11 71 "OneCup" "allRuns" "LOneCup$AllRuns;" ∈ lw_good := gmem (i := 707) (by decide +kernel) rfl
theorem kf_X11_75 : Cond.fieldLink RX11 75 "OneCup" "rowWidth" "[I" ∈ lw_good := gmem (i := 708) (by decide +kernel) rfl
theorem kf_X11_79 : Cond.fieldLink RX11 79 "OneCup" "rowLength" "[I" ∈ lw_good := gmem (i := 709) (by decide +kernel) rfl
theorem kf_X11_82 : Cond.fieldLink RX11 82 "OneCup" "rowNumbers" "[J" ∈ lw_good := gmem (i := 710) (by decide +kernel) rfl
theorem kf_X11_399 : Cond.fieldLink RX11 399 "OneCup" "refusals" "I" ∈ lw_good := gmem (i := 711) (by decide +kernel) rfl
theorem kf_X11_283 : Cond.fieldLink RX11 283 "OneCup" "statesGone" "I" ∈ lw_good := gmem (i := 712) (by decide +kernel) rfl
theorem ka_long : Cond.arrayClass .long ∈ lw_good := gmem (i := 748) (by decide +kernel) rfl
theorem km_L_13 : Cond.methodLink RL 13 yX11_feed ∈ lw_good := gmem (i := 749) (by decide +kernel) rfl
theorem ki_X11_feed : Cond.instanceMethod yX11_feed ∈ lw_good := gmem (i := 750) (by decide +kernel) rfl
theorem ks_X11_feed : Cond.selects RX11 yX11_feed yX11_feed ∈ lw_good := gmem (i := 751) (by decide +kernel) rfl
theorem kd_X11_feed : Cond.code yX11_feed cX11_feed 6 (some .int) ∈ lw_good := gmem (i := 752) (by decide +kernel) rfl
theorem km_X11_98 : Cond.methodLink RX11 98 yX8_put ∈ lw_good := gmem (i := 753) (by decide +kernel) rfl
theorem ki_X8_put : Cond.instanceMethod yX8_put ∈ lw_good := gmem (i := 754) (by decide +kernel) rfl
theorem ks_X8_put : Cond.selects RX8 yX8_put yX8_put ∈ lw_good := gmem (i := 755) (by decide +kernel) rfl
theorem kd_X8_put : Cond.code yX8_put cX8_put 3 none ∈ lw_good := gmem (i := 756) (by decide +kernel) rfl
theorem km_L_18 : Cond.methodLink RL 18 yX11_end ∈ lw_good := gmem (i := 757) (by decide +kernel) rfl
theorem ki_X11_end : Cond.instanceMethod yX11_end ∈ lw_good := gmem (i := 758) (by decide +kernel) rfl
theorem ks_X11_end : Cond.selects RX11 yX11_end yX11_end ∈ lw_good := gmem (i := 759) (by decide +kernel) rfl
theorem kd_X11_end : Cond.code yX11_end cX11_end 2 (some .int) ∈ lw_good := gmem (i := 760) (by decide +kernel) rfl
theorem km_L_23 : Cond.methodLink RL 23 yX11_text ∈ lw_good := gmem (i := 761) (by decide +kernel) rfl
theorem ki_X11_text : Cond.instanceMethod yX11_text ∈ lw_good := gmem (i := 762) (by decide +kernel) rfl
theorem ks_X11_text : Cond.selects RX11 yX11_text yX11_text ∈ lw_good := gmem (i := 763) (by decide +kernel) rfl
theorem kd_X11_text : Cond.code yX11_text cX11_text 2 (some .int) ∈ lw_good := gmem (i := 764) (by decide +kernel) rfl
theorem km_X11_102 : Cond.methodLink RX11 102 yX8_parse ∈ lw_good := gmem (i := 765) (by decide +kernel) rfl
theorem ki_X8_parse : Cond.instanceMethod yX8_parse ∈ lw_good := gmem (i := 766) (by decide +kernel) rfl
theorem ks_X8_parse : Cond.selects RX8 yX8_parse yX8_parse ∈ lw_good := gmem (i := 767) (by decide +kernel) rfl
theorem kd_X8_parse : Cond.code yX8_parse cX8_parse 2 (some .boolean) ∈ lw_good := gmem (i := 768) (by decide +kernel) rfl
theorem km_X8_42 : Cond.methodLink RX8 42 yX9_clear ∈ lw_good := gmem (i := 769) (by decide +kernel) rfl
theorem ki_X9_clear : Cond.instanceMethod yX9_clear ∈ lw_good := gmem (i := 770) (by decide +kernel) rfl
theorem ks_X9_clear : Cond.selects RX9 yX9_clear yX9_clear ∈ lw_good := gmem (i := 771) (by decide +kernel) rfl
theorem kd_X9_clear : Cond.code yX9_clear cX9_clear 1 none ∈ lw_good := gmem (i := 772) (by decide +kernel) rfl
theorem km_X9_33 : Cond.methodLink RX9 33 yJ7_fill_53178 ∈ lw_good := gmem (i := 773) (by decide +kernel) rfl
theorem km_X8_57 : Cond.methodLink RX8 57 yX8_advance ∈ lw_good := gmem (i := 774) (by decide +kernel) rfl
theorem ki_X8_advance : Cond.instanceMethod yX8_advance ∈ lw_good := gmem (i := 776) (by decide +kernel) rfl
theorem kd_X8_advance : Cond.code yX8_advance cX8_advance 2 none ∈ lw_good := gmem (i := 777) (by decide +kernel) rfl
theorem km_X8_75 : Cond.methodLink RX8 75 yX8_byteAt ∈ lw_good := gmem (i := 778) (by decide +kernel) rfl
theorem ki_X8_byteAt : Cond.instanceMethod yX8_byteAt ∈ lw_good := gmem (i := 780) (by decide +kernel) rfl
theorem kd_X8_byteAt : Cond.code yX8_byteAt cX8_byteAt 2 (some .int) ∈ lw_good := gmem (i := 781) (by decide +kernel) rfl
theorem km_X8_79 : Cond.methodLink RX8 79 yX8_isLetter ∈ lw_good := gmem (i := 782) (by decide +kernel) rfl
theorem kt_X8_isLetter : Cond.static yX8_isLetter ∈ lw_good := gmem (i := 783) (by decide +kernel) rfl
theorem kd_X8_isLetter : Cond.code yX8_isLetter cX8_isLetter 1 (some .boolean) ∈ lw_good := gmem (i := 784) (by decide +kernel) rfl
theorem km_X8_83 : Cond.methodLink RX8 83 yX8_isDigit ∈ lw_good := gmem (i := 785) (by decide +kernel) rfl
theorem kt_X8_isDigit : Cond.static yX8_isDigit ∈ lw_good := gmem (i := 786) (by decide +kernel) rfl
theorem kd_X8_isDigit : Cond.code yX8_isDigit cX8_isDigit 1 (some .boolean) ∈ lw_good := gmem (i := 787) (by decide +kernel) rfl
theorem kk_X8_89 : Cond.constant RX8 89 (100000) ∈ lw_good := gmem (i := 788) (by decide +kernel) rfl
theorem km_X8_90 : Cond.methodLink RX8 90 yJ9_min_7cf53 ∈ lw_good := gmem (i := 789) (by decide +kernel) rfl
theorem kt_J9_min_7cf53 : Cond.static yJ9_min_7cf53 ∈ lw_good := gmem (i := 790) (by decide +kernel) rfl
theorem kd_J9_min_7cf53 : Cond.code yJ9_min_7cf53 cJ9_min_7cf53 2 (some .int) ∈ lw_good := gmem (i := 791) (by decide +kernel) rfl
theorem km_X8_96 : Cond.methodLink RX8 96 yX8_isSign ∈ lw_good := gmem (i := 792) (by decide +kernel) rfl
theorem kt_X8_isSign : Cond.static yX8_isSign ∈ lw_good := gmem (i := 793) (by decide +kernel) rfl
theorem kd_X8_isSign : Cond.code yX8_isSign cX8_isSign 1 (some .boolean) ∈ lw_good := gmem (i := 794) (by decide +kernel) rfl
theorem km_X8_63 : Cond.methodLink RX8 63 yX8_readHead ∈ lw_good := gmem (i := 795) (by decide +kernel) rfl
theorem ki_X8_readHead : Cond.instanceMethod yX8_readHead ∈ lw_good := gmem (i := 797) (by decide +kernel) rfl
theorem kd_X8_readHead : Cond.code yX8_readHead cX8_readHead 2 none ∈ lw_good := gmem (i := 798) (by decide +kernel) rfl
theorem km_X8_116 : Cond.methodLink RX8 116 yX8_isWord ∈ lw_good := gmem (i := 800) (by decide +kernel) rfl
theorem ki_X8_isWord : Cond.instanceMethod yX8_isWord ∈ lw_good := gmem (i := 802) (by decide +kernel) rfl
theorem kd_X8_isWord : Cond.code yX8_isWord cX8_isWord 3 (some .boolean) ∈ lw_good := gmem (i := 803) (by decide +kernel) rfl
theorem km_X8_99 : Cond.methodLink RX8 99 yJ0_length_8abf5 ∈ lw_good := gmem (i := 804) (by decide +kernel) rfl
theorem ki_J0_length_8abf5 : Cond.instanceMethod yJ0_length_8abf5 ∈ lw_good := gmem (i := 805) (by decide +kernel) rfl
theorem ks_J0_length_8abf5 : Cond.selects RJ0 yJ0_length_8abf5 yJ0_length_8abf5 ∈ lw_good := gmem (i := 806) (by decide +kernel) rfl
theorem kd_J0_length_8abf5 : Cond.code yJ0_length_8abf5 cJ0_length_8abf5 1 (some .int) ∈ lw_good := gmem (i := 807) (by decide +kernel) rfl
theorem km_J0_335 : Cond.methodLink RJ0 335 yJ0_coder_7d493 ∈ lw_good := gmem (i := 808) (by decide +kernel) rfl
theorem ki_J0_coder_7d493 : Cond.instanceMethod yJ0_coder_7d493 ∈ lw_good := gmem (i := 809) (by decide +kernel) rfl
theorem ks_J0_coder_7d493 : Cond.selects RJ0 yJ0_coder_7d493 yJ0_coder_7d493 ∈ lw_good := gmem (i := 810) (by decide +kernel) rfl
theorem kd_J0_coder_7d493 : Cond.code yJ0_coder_7d493 cJ0_coder_7d493 1 (some .byte) ∈ lw_good := gmem (i := 811) (by decide +kernel) rfl
theorem kf_J0_38 : Cond.fieldLink RJ0 38 "java/lang/String" "COMPACT_STRINGS" "Z" ∈ lw_good := gmem (i := 812) (by decide +kernel) rfl
theorem km_X8_104 : Cond.methodLink RX8 104 yJ0_charAt_5068e ∈ lw_good := gmem (i := 814) (by decide +kernel) rfl
theorem ki_J0_charAt_5068e : Cond.instanceMethod yJ0_charAt_5068e ∈ lw_good := gmem (i := 815) (by decide +kernel) rfl
theorem ks_J0_charAt_5068e : Cond.selects RJ0 yJ0_charAt_5068e yJ0_charAt_5068e ∈ lw_good := gmem (i := 816) (by decide +kernel) rfl
theorem kd_J0_charAt_5068e : Cond.code yJ0_charAt_5068e cJ0_charAt_5068e 2 (some .char) ∈ lw_good := gmem (i := 817) (by decide +kernel) rfl
theorem km_J0_492 : Cond.methodLink RJ0 492 yJ0_isLatin1_aae02 ∈ lw_good := gmem (i := 818) (by decide +kernel) rfl
theorem ki_J0_isLatin1_aae02 : Cond.instanceMethod yJ0_isLatin1_aae02 ∈ lw_good := gmem (i := 819) (by decide +kernel) rfl
theorem ks_J0_isLatin1_aae02 : Cond.selects RJ0 yJ0_isLatin1_aae02 yJ0_isLatin1_aae02 ∈ lw_good := gmem (i := 820) (by decide +kernel) rfl
theorem kd_J0_isLatin1_aae02 : Cond.code yJ0_isLatin1_aae02 cJ0_isLatin1_aae02 1 (some .boolean) ∈ lw_good := gmem (i := 821) (by decide +kernel) rfl
theorem km_J0_495 : Cond.methodLink RJ0 495 yJ1_charAt_3b067 ∈ lw_good := gmem (i := 822) (by decide +kernel) rfl
theorem kt_J1_charAt_3b067 : Cond.static yJ1_charAt_3b067 ∈ lw_good := gmem (i := 823) (by decide +kernel) rfl
theorem kd_J1_charAt_3b067 : Cond.code yJ1_charAt_3b067 cJ1_charAt_3b067 2 (some .char) ∈ lw_good := gmem (i := 824) (by decide +kernel) rfl
theorem km_J1_9 : Cond.methodLink RJ1 9 yJ0_checkIndex_df160 ∈ lw_good := gmem (i := 825) (by decide +kernel) rfl
theorem kt_J0_checkIndex_df160 : Cond.static yJ0_checkIndex_df160 ∈ lw_good := gmem (i := 826) (by decide +kernel) rfl
theorem kd_J0_checkIndex_df160 : Cond.code yJ0_checkIndex_df160 cJ0_checkIndex_df160 2 none ∈ lw_good := gmem (i := 827) (by decide +kernel) rfl
theorem kf_J0_1053 : Cond.fieldLink RJ0 1053 "jdk/internal/util/Preconditions" "SIOOBE_FORMATTER" "Ljava/util/function/BiFunction;" ∈ lw_good := gmem (i := 828) (by decide +kernel) rfl
theorem km_J0_1059 : Cond.methodLink RJ0 1059 yJ3_checkIndex_8e157 ∈ lw_good := gmem (i := 830) (by decide +kernel) rfl
theorem kt_J3_checkIndex_8e157 : Cond.static yJ3_checkIndex_8e157 ∈ lw_good := gmem (i := 831) (by decide +kernel) rfl
theorem kd_J3_checkIndex_8e157 : Cond.code yJ3_checkIndex_8e157 cJ3_checkIndex_8e157 3 (some .int) ∈ lw_good := gmem (i := 832) (by decide +kernel) rfl
theorem km_J0_498 : Cond.methodLink RJ0 498 yJ2_charAt_3b067 ∈ lw_good := gmem (i := 833) (by decide +kernel) rfl
theorem kt_J2_charAt_3b067 : Cond.static yJ2_charAt_3b067 ∈ lw_good := gmem (i := 834) (by decide +kernel) rfl
theorem kd_J2_charAt_3b067 : Cond.code yJ2_charAt_3b067 cJ2_charAt_3b067 2 (some .char) ∈ lw_good := gmem (i := 835) (by decide +kernel) rfl
theorem km_J2_67 : Cond.methodLink RJ2 67 yJ2_checkIndex_2214a ∈ lw_good := gmem (i := 836) (by decide +kernel) rfl
theorem kt_J2_checkIndex_2214a : Cond.static yJ2_checkIndex_2214a ∈ lw_good := gmem (i := 837) (by decide +kernel) rfl
theorem kd_J2_checkIndex_2214a : Cond.code yJ2_checkIndex_2214a cJ2_checkIndex_2214a 2 none ∈ lw_good := gmem (i := 838) (by decide +kernel) rfl
theorem km_J2_48 : Cond.methodLink RJ2 48 yJ2_length_9d52b ∈ lw_good := gmem (i := 839) (by decide +kernel) rfl
theorem kt_J2_length_9d52b : Cond.static yJ2_length_9d52b ∈ lw_good := gmem (i := 840) (by decide +kernel) rfl
theorem kd_J2_length_9d52b : Cond.code yJ2_length_9d52b cJ2_length_9d52b 1 (some .int) ∈ lw_good := gmem (i := 841) (by decide +kernel) rfl
theorem km_J2_414 : Cond.methodLink RJ2 414 yJ0_checkIndex_df160 ∈ lw_good := gmem (i := 842) (by decide +kernel) rfl
theorem km_J2_71 : Cond.methodLink RJ2 71 yJ2_getChar_3b067 ∈ lw_good := gmem (i := 843) (by decide +kernel) rfl
theorem kt_J2_getChar_3b067 : Cond.static yJ2_getChar_3b067 ∈ lw_good := gmem (i := 844) (by decide +kernel) rfl
theorem kd_J2_getChar_3b067 : Cond.code yJ2_getChar_3b067 cJ2_getChar_3b067 2 (some .char) ∈ lw_good := gmem (i := 845) (by decide +kernel) rfl
theorem kf_J2_44 : Cond.fieldLink RJ2 44 "java/lang/StringUTF16" "$assertionsDisabled" "Z" ∈ lw_good := gmem (i := 846) (by decide +kernel) rfl
theorem kf_J2_59 : Cond.fieldLink RJ2 59 "java/lang/StringUTF16" "HI_BYTE_SHIFT" "I" ∈ lw_good := gmem (i := 848) (by decide +kernel) rfl
theorem kf_J2_63 : Cond.fieldLink RJ2 63 "java/lang/StringUTF16" "LO_BYTE_SHIFT" "I" ∈ lw_good := gmem (i := 850) (by decide +kernel) rfl
theorem km_X8_108 : Cond.methodLink RX8 108 yX8_fail ∈ lw_good := gmem (i := 852) (by decide +kernel) rfl
theorem ki_X8_fail : Cond.instanceMethod yX8_fail ∈ lw_good := gmem (i := 854) (by decide +kernel) rfl
theorem kd_X8_fail : Cond.code yX8_fail cX8_fail 2 none ∈ lw_good := gmem (i := 855) (by decide +kernel) rfl
theorem km_X8_112 : Cond.methodLink RX8 112 yX8_numberHere ∈ lw_good := gmem (i := 856) (by decide +kernel) rfl
theorem ki_X8_numberHere : Cond.instanceMethod yX8_numberHere ∈ lw_good := gmem (i := 858) (by decide +kernel) rfl
theorem kd_X8_numberHere : Cond.code yX8_numberHere cX8_numberHere 3 (some .int) ∈ lw_good := gmem (i := 859) (by decide +kernel) rfl
theorem km_X8_123 : Cond.methodLink RX8 123 yX8_openBrace ∈ lw_good := gmem (i := 860) (by decide +kernel) rfl
theorem ki_X8_openBrace : Cond.instanceMethod yX8_openBrace ∈ lw_good := gmem (i := 862) (by decide +kernel) rfl
theorem kd_X8_openBrace : Cond.code yX8_openBrace cX8_openBrace 5 none ∈ lw_good := gmem (i := 863) (by decide +kernel) rfl
theorem km_X8_66 : Cond.methodLink RX8 66 yX8_closeBrace ∈ lw_good := gmem (i := 864) (by decide +kernel) rfl
theorem ki_X8_closeBrace : Cond.instanceMethod yX8_closeBrace ∈ lw_good := gmem (i := 866) (by decide +kernel) rfl
theorem kd_X8_closeBrace : Cond.code yX8_closeBrace cX8_closeBrace 1 none ∈ lw_good := gmem (i := 867) (by decide +kernel) rfl
theorem km_X8_127 : Cond.methodLink RX8 127 yX9_closeIf ∈ lw_good := gmem (i := 868) (by decide +kernel) rfl
theorem ki_X9_closeIf : Cond.instanceMethod yX9_closeIf ∈ lw_good := gmem (i := 869) (by decide +kernel) rfl
theorem ks_X9_closeIf : Cond.selects RX9 yX9_closeIf yX9_closeIf ∈ lw_good := gmem (i := 870) (by decide +kernel) rfl
theorem kd_X9_closeIf : Cond.code yX9_closeIf cX9_closeIf 3 none ∈ lw_good := gmem (i := 871) (by decide +kernel) rfl
theorem km_X8_131 : Cond.methodLink RX8 131 yX9_repeat ∈ lw_good := gmem (i := 872) (by decide +kernel) rfl
theorem ki_X9_repeat : Cond.instanceMethod yX9_repeat ∈ lw_good := gmem (i := 873) (by decide +kernel) rfl
theorem ks_X9_repeat : Cond.selects RX9 yX9_repeat yX9_repeat ∈ lw_good := gmem (i := 874) (by decide +kernel) rfl
theorem kd_X9_repeat : Cond.code yX9_repeat cX9_repeat 7 none ∈ lw_good := gmem (i := 875) (by decide +kernel) rfl
theorem km_X9_49 : Cond.methodLink RX9 49 yX9_countOf ∈ lw_good := gmem (i := 876) (by decide +kernel) rfl
theorem ki_X9_countOf : Cond.instanceMethod yX9_countOf ∈ lw_good := gmem (i := 877) (by decide +kernel) rfl
theorem ks_X9_countOf : Cond.selects RX9 yX9_countOf yX9_countOf ∈ lw_good := gmem (i := 878) (by decide +kernel) rfl
theorem kd_X9_countOf : Cond.code yX9_countOf cX9_countOf 2 (some .int) ∈ lw_good := gmem (i := 879) (by decide +kernel) rfl
theorem km_X9_53 : Cond.methodLink RX9 53 yX9_addAgain ∈ lw_good := gmem (i := 880) (by decide +kernel) rfl
theorem ki_X9_addAgain : Cond.instanceMethod yX9_addAgain ∈ lw_good := gmem (i := 882) (by decide +kernel) rfl
theorem kd_X9_addAgain : Cond.code yX9_addAgain cX9_addAgain 4 none ∈ lw_good := gmem (i := 883) (by decide +kernel) rfl
theorem km_X9_57 : Cond.methodLink RX9 57 yX9_add ∈ lw_good := gmem (i := 884) (by decide +kernel) rfl
theorem ki_X9_add : Cond.instanceMethod yX9_add ∈ lw_good := gmem (i := 885) (by decide +kernel) rfl
theorem ks_X9_add : Cond.selects RX9 yX9_add yX9_add ∈ lw_good := gmem (i := 886) (by decide +kernel) rfl
theorem kd_X9_add : Cond.code yX9_add cX9_add 8 none ∈ lw_good := gmem (i := 887) (by decide +kernel) rfl
theorem km_X8_135 : Cond.methodLink RX8 135 yX9_add ∈ lw_good := gmem (i := 888) (by decide +kernel) rfl
theorem km_X8_139 : Cond.methodLink RX8 139 yX9_countOf ∈ lw_good := gmem (i := 889) (by decide +kernel) rfl
theorem km_X8_69 : Cond.methodLink RX8 69 yX8_readStep ∈ lw_good := gmem (i := 890) (by decide +kernel) rfl
theorem ki_X8_readStep : Cond.instanceMethod yX8_readStep ∈ lw_good := gmem (i := 892) (by decide +kernel) rfl
theorem kd_X8_readStep : Cond.code yX8_readStep cX8_readStep 3 none ∈ lw_good := gmem (i := 893) (by decide +kernel) rfl
theorem km_X8_142 : Cond.methodLink RX8 142 yX8_stepOfWord ∈ lw_good := gmem (i := 894) (by decide +kernel) rfl
theorem ki_X8_stepOfWord : Cond.instanceMethod yX8_stepOfWord ∈ lw_good := gmem (i := 896) (by decide +kernel) rfl
theorem kd_X8_stepOfWord : Cond.code yX8_stepOfWord cX8_stepOfWord 1 (some .int) ∈ lw_good := gmem (i := 897) (by decide +kernel) rfl
theorem km_X8_145 : Cond.methodLink RX8 145 yX8_readOpening ∈ lw_good := gmem (i := 911) (by decide +kernel) rfl
theorem ki_X8_readOpening : Cond.instanceMethod yX8_readOpening ∈ lw_good := gmem (i := 913) (by decide +kernel) rfl
theorem kd_X8_readOpening : Cond.code yX8_readOpening cX8_readOpening 7 none ∈ lw_good := gmem (i := 914) (by decide +kernel) rfl
theorem km_X8_180 : Cond.methodLink RX8 180 yX8_passLetter ∈ lw_good := gmem (i := 915) (by decide +kernel) rfl
theorem ki_X8_passLetter : Cond.instanceMethod yX8_passLetter ∈ lw_good := gmem (i := 917) (by decide +kernel) rfl
theorem kd_X8_passLetter : Cond.code yX8_passLetter cX8_passLetter 4 (some .int) ∈ lw_good := gmem (i := 918) (by decide +kernel) rfl
theorem km_X8_151 : Cond.methodLink RX8 151 yX8_pass ∈ lw_good := gmem (i := 919) (by decide +kernel) rfl
theorem ki_X8_pass : Cond.instanceMethod yX8_pass ∈ lw_good := gmem (i := 921) (by decide +kernel) rfl
theorem kd_X8_pass : Cond.code yX8_pass cX8_pass 2 none ∈ lw_good := gmem (i := 922) (by decide +kernel) rfl
theorem km_X8_183 : Cond.methodLink RX8 183 yX8_passWithin ∈ lw_good := gmem (i := 923) (by decide +kernel) rfl
theorem ki_X8_passWithin : Cond.instanceMethod yX8_passWithin ∈ lw_good := gmem (i := 925) (by decide +kernel) rfl
theorem kd_X8_passWithin : Cond.code yX8_passWithin cX8_passWithin 4 (some .int) ∈ lw_good := gmem (i := 926) (by decide +kernel) rfl
theorem km_X8_148 : Cond.methodLink RX8 148 yX8_readPlain ∈ lw_good := gmem (i := 927) (by decide +kernel) rfl
theorem ki_X8_readPlain : Cond.instanceMethod yX8_readPlain ∈ lw_good := gmem (i := 929) (by decide +kernel) rfl
theorem kd_X8_readPlain : Cond.code yX8_readPlain cX8_readPlain 4 none ∈ lw_good := gmem (i := 930) (by decide +kernel) rfl
theorem km_X11_113 : Cond.methodLink RX11 113 yX9_copyFrom ∈ lw_good := gmem (i := 931) (by decide +kernel) rfl
theorem ki_X9_copyFrom : Cond.instanceMethod yX9_copyFrom ∈ lw_good := gmem (i := 932) (by decide +kernel) rfl
theorem ks_X9_copyFrom : Cond.selects RX9 yX9_copyFrom yX9_copyFrom ∈ lw_good := gmem (i := 933) (by decide +kernel) rfl
theorem kd_X9_copyFrom : Cond.code yX9_copyFrom cX9_copyFrom 2 none ∈ lw_good := gmem (i := 934) (by decide +kernel) rfl
theorem km_X9_43 : Cond.methodLink RX9 43 arraycopyName ∈ lw_good := gmem (i := 935) (by decide +kernel) rfl
theorem km_X11_119 : Cond.methodLink RX11 119 yX5_clear ∈ lw_good := gmem (i := 936) (by decide +kernel) rfl
theorem ki_X5_clear : Cond.instanceMethod yX5_clear ∈ lw_good := gmem (i := 937) (by decide +kernel) rfl
theorem ks_X5_clear : Cond.selects RX5 yX5_clear yX5_clear ∈ lw_good := gmem (i := 938) (by decide +kernel) rfl
theorem kd_X5_clear : Cond.code yX5_clear cX5_clear 1 none ∈ lw_good := gmem (i := 939) (by decide +kernel) rfl
theorem km_X5_52 : Cond.methodLink RX5 52 yJ7_fill_53178 ∈ lw_good := gmem (i := 940) (by decide +kernel) rfl
theorem km_X11_128 : Cond.methodLink RX11 128 yX11_logIsMade ∈ lw_good := gmem (i := 941) (by decide +kernel) rfl
theorem ki_X11_logIsMade : Cond.instanceMethod yX11_logIsMade ∈ lw_good := gmem (i := 943) (by decide +kernel) rfl
theorem kd_X11_logIsMade : Cond.code yX11_logIsMade cX11_logIsMade 1 none ∈ lw_good := gmem (i := 944) (by decide +kernel) rfl
theorem km_X11_134 : Cond.methodLink RX11 134 yJ6_bitCount_0f7a4 ∈ lw_good := gmem (i := 945) (by decide +kernel) rfl
theorem kt_J6_bitCount_0f7a4 : Cond.static yJ6_bitCount_0f7a4 ∈ lw_good := gmem (i := 946) (by decide +kernel) rfl
theorem kd_J6_bitCount_0f7a4 : Cond.code yJ6_bitCount_0f7a4 cJ6_bitCount_0f7a4 1 (some .int) ∈ lw_good := gmem (i := 947) (by decide +kernel) rfl
theorem kk_J6_265 : Cond.constant RJ6 265 (1431655765) ∈ lw_good := gmem (i := 948) (by decide +kernel) rfl
theorem kk_J6_266 : Cond.constant RJ6 266 (858993459) ∈ lw_good := gmem (i := 949) (by decide +kernel) rfl
theorem kk_J6_267 : Cond.constant RJ6 267 (252645135) ∈ lw_good := gmem (i := 950) (by decide +kernel) rfl
theorem km_L_28 : Cond.methodLink RL 28 yX11_fault ∈ lw_good := gmem (i := 951) (by decide +kernel) rfl
theorem ki_X11_fault : Cond.instanceMethod yX11_fault ∈ lw_good := gmem (i := 952) (by decide +kernel) rfl
theorem ks_X11_fault : Cond.selects RX11 yX11_fault yX11_fault ∈ lw_good := gmem (i := 953) (by decide +kernel) rfl
theorem kd_X11_fault : Cond.code yX11_fault cX11_fault 2 (some .int) ∈ lw_good := gmem (i := 954) (by decide +kernel) rfl
theorem km_L_32 : Cond.methodLink RL 32 yX11_run ∈ lw_good := gmem (i := 955) (by decide +kernel) rfl
theorem ki_X11_run : Cond.instanceMethod yX11_run ∈ lw_good := gmem (i := 956) (by decide +kernel) rfl
theorem ks_X11_run : Cond.selects RX11 yX11_run yX11_run ∈ lw_good := gmem (i := 957) (by decide +kernel) rfl
theorem kd_X11_run : Cond.code yX11_run cX11_run 2 (some .int) ∈ lw_good := gmem (i := 958) (by decide +kernel) rfl
theorem km_X11_146 : Cond.methodLink RX11 146 yX11_isSlot ∈ lw_good := gmem (i := 959) (by decide +kernel) rfl
theorem kt_X11_isSlot : Cond.static yX11_isSlot ∈ lw_good := gmem (i := 960) (by decide +kernel) rfl
theorem kd_X11_isSlot : Cond.code yX11_isSlot cX11_isSlot 1 (some .boolean) ∈ lw_good := gmem (i := 961) (by decide +kernel) rfl
theorem km_X11_150 : Cond.methodLink RX11 150 yX11_refuse ∈ lw_good := gmem (i := 962) (by decide +kernel) rfl
theorem ki_X11_refuse : Cond.instanceMethod yX11_refuse ∈ lw_good := gmem (i := 964) (by decide +kernel) rfl
theorem kd_X11_refuse : Cond.code yX11_refuse cX11_refuse 1 (some .int) ∈ lw_good := gmem (i := 965) (by decide +kernel) rfl
theorem km_X11_154 : Cond.methodLink RX11 154 yX11_hasRow ∈ lw_good := gmem (i := 966) (by decide +kernel) rfl
theorem ki_X11_hasRow : Cond.instanceMethod yX11_hasRow ∈ lw_good := gmem (i := 968) (by decide +kernel) rfl
theorem kd_X11_hasRow : Cond.code yX11_hasRow cX11_hasRow 2 (some .boolean) ∈ lw_good := gmem (i := 969) (by decide +kernel) rfl
theorem km_X11_157 : Cond.methodLink RX11 157 yX11_newRun ∈ lw_good := gmem (i := 970) (by decide +kernel) rfl
theorem ki_X11_newRun : Cond.instanceMethod yX11_newRun ∈ lw_good := gmem (i := 972) (by decide +kernel) rfl
theorem kd_X11_newRun : Cond.code yX11_newRun cX11_newRun 6 (some .int) ∈ lw_good := gmem (i := 973) (by decide +kernel) rfl
theorem km_X11_160 : Cond.methodLink RX11 160 yX6_begin ∈ lw_good := gmem (i := 974) (by decide +kernel) rfl
theorem ki_X6_begin : Cond.instanceMethod yX6_begin ∈ lw_good := gmem (i := 975) (by decide +kernel) rfl
theorem ks_X6_begin : Cond.selects RX6 yX6_begin yX6_begin ∈ lw_good := gmem (i := 976) (by decide +kernel) rfl
theorem kd_X6_begin : Cond.code yX6_begin cX6_begin 2 none ∈ lw_good := gmem (i := 977) (by decide +kernel) rfl
theorem km_X6_31 : Cond.methodLink RX6 31 yJ7_fill_53178 ∈ lw_good := gmem (i := 978) (by decide +kernel) rfl
theorem kl_X11_166 : Cond.constantLong RX11 166 (6) ∈ lw_good := gmem (i := 979) (by decide +kernel) rfl
theorem km_X11_168 : Cond.methodLink RX11 168 yX6_can ∈ lw_good := gmem (i := 980) (by decide +kernel) rfl
theorem ki_X6_can : Cond.instanceMethod yX6_can ∈ lw_good := gmem (i := 981) (by decide +kernel) rfl
theorem ks_X6_can : Cond.selects RX6 yX6_can yX6_can ∈ lw_good := gmem (i := 982) (by decide +kernel) rfl
theorem kd_X6_can : Cond.code yX6_can cX6_can 4 (some .boolean) ∈ lw_good := gmem (i := 983) (by decide +kernel) rfl
theorem km_X6_46 : Cond.methodLink RX6 46 yX6_isStarted ∈ lw_good := gmem (i := 984) (by decide +kernel) rfl
theorem ki_X6_isStarted : Cond.instanceMethod yX6_isStarted ∈ lw_good := gmem (i := 986) (by decide +kernel) rfl
theorem kd_X6_isStarted : Cond.code yX6_isStarted cX6_isStarted 2 (some .boolean) ∈ lw_good := gmem (i := 987) (by decide +kernel) rfl
theorem km_X6_50 : Cond.methodLink RX6 50 yX6_hasCode ∈ lw_good := gmem (i := 988) (by decide +kernel) rfl
theorem ki_X6_hasCode : Cond.instanceMethod yX6_hasCode ∈ lw_good := gmem (i := 990) (by decide +kernel) rfl
theorem kd_X6_hasCode : Cond.code yX6_hasCode cX6_hasCode 2 (some .boolean) ∈ lw_good := gmem (i := 991) (by decide +kernel) rfl
theorem km_X11_171 : Cond.methodLink RX11 171 yX11_goOnce ∈ lw_good := gmem (i := 992) (by decide +kernel) rfl
theorem ki_X11_goOnce : Cond.instanceMethod yX11_goOnce ∈ lw_good := gmem (i := 994) (by decide +kernel) rfl
theorem kd_X11_goOnce : Cond.code yX11_goOnce cX11_goOnce 3 none ∈ lw_good := gmem (i := 995) (by decide +kernel) rfl
theorem km_X11_187 : Cond.methodLink RX11 187 yX6_go ∈ lw_good := gmem (i := 996) (by decide +kernel) rfl
theorem ki_X6_go : Cond.instanceMethod yX6_go ∈ lw_good := gmem (i := 997) (by decide +kernel) rfl
theorem ks_X6_go : Cond.selects RX6 yX6_go yX6_go ∈ lw_good := gmem (i := 998) (by decide +kernel) rfl
theorem kd_X6_go : Cond.code yX6_go cX6_go 4 (some .int) ∈ lw_good := gmem (i := 999) (by decide +kernel) rfl
theorem km_X6_62 : Cond.methodLink RX6 62 yX6_look ∈ lw_good := gmem (i := 1000) (by decide +kernel) rfl
theorem ki_X6_look : Cond.instanceMethod yX6_look ∈ lw_good := gmem (i := 1002) (by decide +kernel) rfl
theorem kd_X6_look : Cond.code yX6_look cX6_look 6 none ∈ lw_good := gmem (i := 1003) (by decide +kernel) rfl
theorem km_X11_190 : Cond.methodLink RX11 190 yX5_add ∈ lw_good := gmem (i := 1004) (by decide +kernel) rfl
theorem ki_X5_add : Cond.instanceMethod yX5_add ∈ lw_good := gmem (i := 1005) (by decide +kernel) rfl
theorem ks_X5_add : Cond.selects RX5 yX5_add yX5_add ∈ lw_good := gmem (i := 1006) (by decide +kernel) rfl
theorem kd_X5_add : Cond.code yX5_add cX5_add 5 none ∈ lw_good := gmem (i := 1007) (by decide +kernel) rfl
theorem km_X5_75 : Cond.methodLink RX5 75 yX5_enterGate ∈ lw_good := gmem (i := 1008) (by decide +kernel) rfl
theorem ki_X5_enterGate : Cond.instanceMethod yX5_enterGate ∈ lw_good := gmem (i := 1010) (by decide +kernel) rfl
theorem kd_X5_enterGate : Cond.code yX5_enterGate cX5_enterGate 3 (some .int) ∈ lw_good := gmem (i := 1011) (by decide +kernel) rfl
theorem km_X5_79 : Cond.methodLink RX5 79 yX5_leaveGate ∈ lw_good := gmem (i := 1012) (by decide +kernel) rfl
theorem ki_X5_leaveGate : Cond.instanceMethod yX5_leaveGate ∈ lw_good := gmem (i := 1014) (by decide +kernel) rfl
theorem kd_X5_leaveGate : Cond.code yX5_leaveGate cX5_leaveGate 2 (some .int) ∈ lw_good := gmem (i := 1015) (by decide +kernel) rfl
theorem km_X5_82 : Cond.methodLink RX5 82 yX5_isTouch ∈ lw_good := gmem (i := 1016) (by decide +kernel) rfl
theorem km_X5_90 : Cond.methodLink RX5 90 yX6_heldBy ∈ lw_good := gmem (i := 1017) (by decide +kernel) rfl
theorem ki_X6_heldBy : Cond.instanceMethod yX6_heldBy ∈ lw_good := gmem (i := 1018) (by decide +kernel) rfl
theorem ks_X6_heldBy : Cond.selects RX6 yX6_heldBy yX6_heldBy ∈ lw_good := gmem (i := 1019) (by decide +kernel) rfl
theorem kd_X6_heldBy : Cond.code yX6_heldBy cX6_heldBy 4 (some .int) ∈ lw_good := gmem (i := 1020) (by decide +kernel) rfl
theorem km_X11_174 : Cond.methodLink RX11 174 yX6_leastThatCan ∈ lw_good := gmem (i := 1021) (by decide +kernel) rfl
theorem ki_X6_leastThatCan : Cond.instanceMethod yX6_leastThatCan ∈ lw_good := gmem (i := 1022) (by decide +kernel) rfl
theorem ks_X6_leastThatCan : Cond.selects RX6 yX6_leastThatCan yX6_leastThatCan ∈ lw_good := gmem (i := 1023) (by decide +kernel) rfl
theorem kd_X6_leastThatCan : Cond.code yX6_leastThatCan cX6_leastThatCan 2 (some .int) ∈ lw_good := gmem (i := 1024) (by decide +kernel) rfl
theorem km_X6_59 : Cond.methodLink RX6 59 yX6_can ∈ lw_good := gmem (i := 1025) (by decide +kernel) rfl
theorem km_X11_177 : Cond.methodLink RX11 177 yX5_close ∈ lw_good := gmem (i := 1026) (by decide +kernel) rfl
theorem ki_X5_close : Cond.instanceMethod yX5_close ∈ lw_good := gmem (i := 1027) (by decide +kernel) rfl
theorem ks_X5_close : Cond.selects RX5 yX5_close yX5_close ∈ lw_good := gmem (i := 1028) (by decide +kernel) rfl
theorem kd_X5_close : Cond.code yX5_close cX5_close 2 none ∈ lw_good := gmem (i := 1029) (by decide +kernel) rfl
theorem km_X5_65 : Cond.methodLink RX5 65 arraycopyName ∈ lw_good := gmem (i := 1030) (by decide +kernel) rfl
theorem km_X5_93 : Cond.methodLink RX5 93 yX6_stuckBits ∈ lw_good := gmem (i := 1031) (by decide +kernel) rfl
theorem ki_X6_stuckBits : Cond.instanceMethod yX6_stuckBits ∈ lw_good := gmem (i := 1032) (by decide +kernel) rfl
theorem ks_X6_stuckBits : Cond.selects RX6 yX6_stuckBits yX6_stuckBits ∈ lw_good := gmem (i := 1033) (by decide +kernel) rfl
theorem kd_X6_stuckBits : Cond.code yX6_stuckBits cX6_stuckBits 3 (some .int) ∈ lw_good := gmem (i := 1034) (by decide +kernel) rfl
theorem km_L_36 : Cond.methodLink RL 36 yX11_runs ∈ lw_good := gmem (i := 1035) (by decide +kernel) rfl
theorem ki_X11_runs : Cond.instanceMethod yX11_runs ∈ lw_good := gmem (i := 1036) (by decide +kernel) rfl
theorem ks_X11_runs : Cond.selects RX11 yX11_runs yX11_runs ∈ lw_good := gmem (i := 1037) (by decide +kernel) rfl
theorem kd_X11_runs : Cond.code yX11_runs cX11_runs 1 (some .int) ∈ lw_good := gmem (i := 1038) (by decide +kernel) rfl
theorem km_L_40 : Cond.methodLink RL 40 yX11_act ∈ lw_good := gmem (i := 1039) (by decide +kernel) rfl
theorem ki_X11_act : Cond.instanceMethod yX11_act ∈ lw_good := gmem (i := 1040) (by decide +kernel) rfl
theorem ks_X11_act : Cond.selects RX11 yX11_act yX11_act ∈ lw_good := gmem (i := 1041) (by decide +kernel) rfl
theorem kd_X11_act : Cond.code yX11_act cX11_act 4 (some .int) ∈ lw_good := gmem (i := 1042) (by decide +kernel) rfl
theorem km_X11_200 : Cond.methodLink RX11 200 yX11_isAct ∈ lw_good := gmem (i := 1043) (by decide +kernel) rfl
theorem ki_X11_isAct : Cond.instanceMethod yX11_isAct ∈ lw_good := gmem (i := 1045) (by decide +kernel) rfl
theorem kd_X11_isAct : Cond.code yX11_isAct cX11_isAct 2 (some .boolean) ∈ lw_good := gmem (i := 1046) (by decide +kernel) rfl
theorem kk_X11_203 : Cond.constant RX11 203 (-2000000000) ∈ lw_good := gmem (i := 1047) (by decide +kernel) rfl
theorem km_L_45 : Cond.methodLink RL 45 yX11_cell ∈ lw_good := gmem (i := 1048) (by decide +kernel) rfl
theorem ki_X11_cell : Cond.instanceMethod yX11_cell ∈ lw_good := gmem (i := 1049) (by decide +kernel) rfl
theorem ks_X11_cell : Cond.selects RX11 yX11_cell yX11_cell ∈ lw_good := gmem (i := 1050) (by decide +kernel) rfl
theorem kd_X11_cell : Cond.code yX11_cell cX11_cell 2 (some .int) ∈ lw_good := gmem (i := 1051) (by decide +kernel) rfl
theorem km_X11_225 : Cond.methodLink RX11 225 yX11_isCell ∈ lw_good := gmem (i := 1052) (by decide +kernel) rfl
theorem kt_X11_isCell : Cond.static yX11_isCell ∈ lw_good := gmem (i := 1053) (by decide +kernel) rfl
theorem kd_X11_isCell : Cond.code yX11_isCell cX11_isCell 1 (some .boolean) ∈ lw_good := gmem (i := 1054) (by decide +kernel) rfl
theorem km_L_49 : Cond.methodLink RL 49 yX11_stuck ∈ lw_good := gmem (i := 1055) (by decide +kernel) rfl
theorem ki_X11_stuck : Cond.instanceMethod yX11_stuck ∈ lw_good := gmem (i := 1056) (by decide +kernel) rfl
theorem ks_X11_stuck : Cond.selects RX11 yX11_stuck yX11_stuck ∈ lw_good := gmem (i := 1057) (by decide +kernel) rfl
theorem kd_X11_stuck : Cond.code yX11_stuck cX11_stuck 1 (some .int) ∈ lw_good := gmem (i := 1058) (by decide +kernel) rfl
theorem km_L_53 : Cond.methodLink RL 53 yX11_law ∈ lw_good := gmem (i := 1059) (by decide +kernel) rfl
theorem ki_X11_law : Cond.instanceMethod yX11_law ∈ lw_good := gmem (i := 1060) (by decide +kernel) rfl
theorem ks_X11_law : Cond.selects RX11 yX11_law yX11_law ∈ lw_good := gmem (i := 1061) (by decide +kernel) rfl
theorem kd_X11_law : Cond.code yX11_law cX11_law 5 (some .int) ∈ lw_good := gmem (i := 1062) (by decide +kernel) rfl
theorem km_L_58 : Cond.methodLink RL 58 yX11_before ∈ lw_good := gmem (i := 1063) (by decide +kernel) rfl
theorem ki_X11_before : Cond.instanceMethod yX11_before ∈ lw_good := gmem (i := 1064) (by decide +kernel) rfl
theorem ks_X11_before : Cond.selects RX11 yX11_before yX11_before ∈ lw_good := gmem (i := 1065) (by decide +kernel) rfl
theorem kd_X11_before : Cond.code yX11_before cX11_before 3 (some .int) ∈ lw_good := gmem (i := 1066) (by decide +kernel) rfl
theorem km_X11_237 : Cond.methodLink RX11 237 yX11_lawClocks ∈ lw_good := gmem (i := 1067) (by decide +kernel) rfl
theorem ki_X11_lawClocks : Cond.instanceMethod yX11_lawClocks ∈ lw_good := gmem (i := 1069) (by decide +kernel) rfl
theorem kd_X11_lawClocks : Cond.code yX11_lawClocks cX11_lawClocks 1 (some (.object "OneCup$Clocks")) ∈ lw_good := gmem (i := 1070) (by decide +kernel) rfl
theorem km_X11_249 : Cond.methodLink RX11 249 yX2_fill ∈ lw_good := gmem (i := 1071) (by decide +kernel) rfl
theorem ki_X2_fill : Cond.instanceMethod yX2_fill ∈ lw_good := gmem (i := 1072) (by decide +kernel) rfl
theorem ks_X2_fill : Cond.selects RX2 yX2_fill yX2_fill ∈ lw_good := gmem (i := 1073) (by decide +kernel) rfl
theorem kd_X2_fill : Cond.code yX2_fill cX2_fill 11 none ∈ lw_good := gmem (i := 1074) (by decide +kernel) rfl
theorem km_X2_30 : Cond.methodLink RX2 30 yX2_ownAhead ∈ lw_good := gmem (i := 1075) (by decide +kernel) rfl
theorem ki_X2_ownAhead : Cond.instanceMethod yX2_ownAhead ∈ lw_good := gmem (i := 1077) (by decide +kernel) rfl
theorem kd_X2_ownAhead : Cond.code yX2_ownAhead cX2_ownAhead 4 (some .int) ∈ lw_good := gmem (i := 1078) (by decide +kernel) rfl
theorem km_X2_65 : Cond.methodLink RX2 65 yX2_orders ∈ lw_good := gmem (i := 1079) (by decide +kernel) rfl
theorem ki_X2_orders : Cond.instanceMethod yX2_orders ∈ lw_good := gmem (i := 1081) (by decide +kernel) rfl
theorem kd_X2_orders : Cond.code yX2_orders cX2_orders 2 (some .boolean) ∈ lw_good := gmem (i := 1082) (by decide +kernel) rfl
theorem km_X2_34 : Cond.methodLink RX2 34 arraycopyName ∈ lw_good := gmem (i := 1083) (by decide +kernel) rfl
theorem km_X2_40 : Cond.methodLink RX2 40 yX2_crossAhead ∈ lw_good := gmem (i := 1084) (by decide +kernel) rfl
theorem ki_X2_crossAhead : Cond.instanceMethod yX2_crossAhead ∈ lw_good := gmem (i := 1086) (by decide +kernel) rfl
theorem kd_X2_crossAhead : Cond.code yX2_crossAhead cX2_crossAhead 5 (some .int) ∈ lw_good := gmem (i := 1087) (by decide +kernel) rfl
theorem km_X2_74 : Cond.methodLink RX2 74 yX2_isMarked ∈ lw_good := gmem (i := 1088) (by decide +kernel) rfl
theorem ki_X2_isMarked : Cond.instanceMethod yX2_isMarked ∈ lw_good := gmem (i := 1090) (by decide +kernel) rfl
theorem kd_X2_isMarked : Cond.code yX2_isMarked cX2_isMarked 2 (some .boolean) ∈ lw_good := gmem (i := 1091) (by decide +kernel) rfl
theorem km_X2_43 : Cond.methodLink RX2 43 yX2_takeIn ∈ lw_good := gmem (i := 1092) (by decide +kernel) rfl
theorem ki_X2_takeIn : Cond.instanceMethod yX2_takeIn ∈ lw_good := gmem (i := 1094) (by decide +kernel) rfl
theorem kd_X2_takeIn : Cond.code yX2_takeIn cX2_takeIn 4 none ∈ lw_good := gmem (i := 1095) (by decide +kernel) rfl
theorem km_X2_47 : Cond.methodLink RX2 47 yX5_isTouch ∈ lw_good := gmem (i := 1096) (by decide +kernel) rfl
theorem km_X11_241 : Cond.methodLink RX11 241 yX2_isBefore ∈ lw_good := gmem (i := 1097) (by decide +kernel) rfl
theorem ki_X2_isBefore : Cond.instanceMethod yX2_isBefore ∈ lw_good := gmem (i := 1098) (by decide +kernel) rfl
theorem ks_X2_isBefore : Cond.selects RX2 yX2_isBefore yX2_isBefore ∈ lw_good := gmem (i := 1099) (by decide +kernel) rfl
theorem kd_X2_isBefore : Cond.code yX2_isBefore cX2_isBefore 4 (some .boolean) ∈ lw_good := gmem (i := 1100) (by decide +kernel) rfl
theorem km_L_62 : Cond.methodLink RL 62 yX11_way ∈ lw_good := gmem (i := 1101) (by decide +kernel) rfl
theorem ki_X11_way : Cond.instanceMethod yX11_way ∈ lw_good := gmem (i := 1102) (by decide +kernel) rfl
theorem ks_X11_way : Cond.selects RX11 yX11_way yX11_way ∈ lw_good := gmem (i := 1103) (by decide +kernel) rfl
theorem kd_X11_way : Cond.code yX11_way cX11_way 4 (some .int) ∈ lw_good := gmem (i := 1104) (by decide +kernel) rfl
theorem km_X11_245 : Cond.methodLink RX11 245 yX2_wayAt ∈ lw_good := gmem (i := 1105) (by decide +kernel) rfl
theorem ki_X2_wayAt : Cond.instanceMethod yX2_wayAt ∈ lw_good := gmem (i := 1106) (by decide +kernel) rfl
theorem ks_X2_wayAt : Cond.selects RX2 yX2_wayAt yX2_wayAt ∈ lw_good := gmem (i := 1107) (by decide +kernel) rfl
theorem kd_X2_wayAt : Cond.code yX2_wayAt cX2_wayAt 8 (some .int) ∈ lw_good := gmem (i := 1108) (by decide +kernel) rfl
theorem km_X2_104 : Cond.methodLink RX2 104 yJ7_fill_53178 ∈ lw_good := gmem (i := 1109) (by decide +kernel) rfl
theorem km_X2_110 : Cond.methodLink RX2 110 yX2_nearest ∈ lw_good := gmem (i := 1110) (by decide +kernel) rfl
theorem ki_X2_nearest : Cond.instanceMethod yX2_nearest ∈ lw_good := gmem (i := 1112) (by decide +kernel) rfl
theorem kd_X2_nearest : Cond.code yX2_nearest cX2_nearest 5 (some .int) ∈ lw_good := gmem (i := 1113) (by decide +kernel) rfl
theorem km_X2_113 : Cond.methodLink RX2 113 yJ9_min_7cf53 ∈ lw_good := gmem (i := 1114) (by decide +kernel) rfl
theorem km_L_67 : Cond.methodLink RL 67 yX11_meets ∈ lw_good := gmem (i := 1115) (by decide +kernel) rfl
theorem ki_X11_meets : Cond.instanceMethod yX11_meets ∈ lw_good := gmem (i := 1116) (by decide +kernel) rfl
theorem ks_X11_meets : Cond.selects RX11 yX11_meets yX11_meets ∈ lw_good := gmem (i := 1117) (by decide +kernel) rfl
theorem kd_X11_meets : Cond.code yX11_meets cX11_meets 1 (some .int) ∈ lw_good := gmem (i := 1118) (by decide +kernel) rfl
theorem kk_X11_253 : Cond.constant RX11 253 (1000000) ∈ lw_good := gmem (i := 1119) (by decide +kernel) rfl
theorem km_X11_254 : Cond.methodLink RX11 254 yX2_countAll ∈ lw_good := gmem (i := 1120) (by decide +kernel) rfl
theorem ki_X2_countAll : Cond.instanceMethod yX2_countAll ∈ lw_good := gmem (i := 1121) (by decide +kernel) rfl
theorem ks_X2_countAll : Cond.selects RX2 yX2_countAll yX2_countAll ∈ lw_good := gmem (i := 1122) (by decide +kernel) rfl
theorem kd_X2_countAll : Cond.code yX2_countAll cX2_countAll 6 (some .int) ∈ lw_good := gmem (i := 1123) (by decide +kernel) rfl
theorem km_X2_98 : Cond.methodLink RX2 98 yX2_countBehind ∈ lw_good := gmem (i := 1124) (by decide +kernel) rfl
theorem ki_X2_countBehind : Cond.instanceMethod yX2_countBehind ∈ lw_good := gmem (i := 1125) (by decide +kernel) rfl
theorem ks_X2_countBehind : Cond.selects RX2 yX2_countBehind yX2_countBehind ∈ lw_good := gmem (i := 1126) (by decide +kernel) rfl
theorem kd_X2_countBehind : Cond.code yX2_countBehind cX2_countBehind 9 (some .int) ∈ lw_good := gmem (i := 1127) (by decide +kernel) rfl
theorem km_X2_94 : Cond.methodLink RX2 94 yX2_countRivals ∈ lw_good := gmem (i := 1128) (by decide +kernel) rfl
theorem ki_X2_countRivals : Cond.instanceMethod yX2_countRivals ∈ lw_good := gmem (i := 1130) (by decide +kernel) rfl
theorem kd_X2_countRivals : Cond.code yX2_countRivals cX2_countRivals 7 (some .int) ∈ lw_good := gmem (i := 1131) (by decide +kernel) rfl
theorem km_L_71 : Cond.methodLink RL 71 yX11_meet ∈ lw_good := gmem (i := 1132) (by decide +kernel) rfl
theorem ki_X11_meet : Cond.instanceMethod yX11_meet ∈ lw_good := gmem (i := 1133) (by decide +kernel) rfl
theorem ks_X11_meet : Cond.selects RX11 yX11_meet yX11_meet ∈ lw_good := gmem (i := 1134) (by decide +kernel) rfl
theorem kd_X11_meet : Cond.code yX11_meet cX11_meet 8 (some .int) ∈ lw_good := gmem (i := 1135) (by decide +kernel) rfl
theorem km_X11_258 : Cond.methodLink RX11 258 yX2_countBehind ∈ lw_good := gmem (i := 1136) (by decide +kernel) rfl
theorem km_X11_261 : Cond.methodLink RX11 261 yX2_aheadOf ∈ lw_good := gmem (i := 1137) (by decide +kernel) rfl
theorem ki_X2_aheadOf : Cond.instanceMethod yX2_aheadOf ∈ lw_good := gmem (i := 1138) (by decide +kernel) rfl
theorem ks_X2_aheadOf : Cond.selects RX2 yX2_aheadOf yX2_aheadOf ∈ lw_good := gmem (i := 1139) (by decide +kernel) rfl
theorem kd_X2_aheadOf : Cond.code yX2_aheadOf cX2_aheadOf 6 (some .int) ∈ lw_good := gmem (i := 1140) (by decide +kernel) rfl
theorem km_X2_101 : Cond.methodLink RX2 101 yX2_isMeeting ∈ lw_good := gmem (i := 1141) (by decide +kernel) rfl
theorem ki_X2_isMeeting : Cond.instanceMethod yX2_isMeeting ∈ lw_good := gmem (i := 1142) (by decide +kernel) rfl
theorem ks_X2_isMeeting : Cond.selects RX2 yX2_isMeeting yX2_isMeeting ∈ lw_good := gmem (i := 1143) (by decide +kernel) rfl
theorem kd_X2_isMeeting : Cond.code yX2_isMeeting cX2_isMeeting 5 (some .boolean) ∈ lw_good := gmem (i := 1144) (by decide +kernel) rfl
theorem km_X2_80 : Cond.methodLink RX2 80 yX5_areRivals ∈ lw_good := gmem (i := 1145) (by decide +kernel) rfl
theorem ki_X5_areRivals : Cond.instanceMethod yX5_areRivals ∈ lw_good := gmem (i := 1146) (by decide +kernel) rfl
theorem ks_X5_areRivals : Cond.selects RX5 yX5_areRivals yX5_areRivals ∈ lw_good := gmem (i := 1147) (by decide +kernel) rfl
theorem kd_X5_areRivals : Cond.code yX5_areRivals cX5_areRivals 3 (some .boolean) ∈ lw_good := gmem (i := 1148) (by decide +kernel) rfl
theorem km_X2_84 : Cond.methodLink RX2 84 yX2_isBefore ∈ lw_good := gmem (i := 1149) (by decide +kernel) rfl
theorem km_X11_265 : Cond.methodLink RX11 265 yX11_tellMeeting ∈ lw_good := gmem (i := 1150) (by decide +kernel) rfl
theorem ki_X11_tellMeeting : Cond.instanceMethod yX11_tellMeeting ∈ lw_good := gmem (i := 1152) (by decide +kernel) rfl
theorem kd_X11_tellMeeting : Cond.code yX11_tellMeeting cX11_tellMeeting 4 (some .int) ∈ lw_good := gmem (i := 1153) (by decide +kernel) rfl
theorem km_L_75 : Cond.methodLink RL 75 yX11_first ∈ lw_good := gmem (i := 1154) (by decide +kernel) rfl
theorem ki_X11_first : Cond.instanceMethod yX11_first ∈ lw_good := gmem (i := 1155) (by decide +kernel) rfl
theorem ks_X11_first : Cond.selects RX11 yX11_first yX11_first ∈ lw_good := gmem (i := 1156) (by decide +kernel) rfl
theorem kd_X11_first : Cond.code yX11_first cX11_first 6 (some .int) ∈ lw_good := gmem (i := 1157) (by decide +kernel) rfl
theorem km_L_79 : Cond.methodLink RL 79 yX11_small ∈ lw_good := gmem (i := 1158) (by decide +kernel) rfl
theorem ki_X11_small : Cond.instanceMethod yX11_small ∈ lw_good := gmem (i := 1159) (by decide +kernel) rfl
theorem ks_X11_small : Cond.selects RX11 yX11_small yX11_small ∈ lw_good := gmem (i := 1160) (by decide +kernel) rfl
theorem kd_X11_small : Cond.code yX11_small cX11_small 8 (some .int) ∈ lw_good := gmem (i := 1161) (by decide +kernel) rfl
theorem km_X11_269 : Cond.methodLink RX11 269 yX5_isTouch ∈ lw_good := gmem (i := 1162) (by decide +kernel) rfl
theorem km_X11_275 : Cond.methodLink RX11 275 yX2_isMeeting ∈ lw_good := gmem (i := 1163) (by decide +kernel) rfl
theorem km_L_83 : Cond.methodLink RL 83 yX11_could ∈ lw_good := gmem (i := 1164) (by decide +kernel) rfl
theorem ki_X11_could : Cond.instanceMethod yX11_could ∈ lw_good := gmem (i := 1165) (by decide +kernel) rfl
theorem ks_X11_could : Cond.selects RX11 yX11_could yX11_could ∈ lw_good := gmem (i := 1166) (by decide +kernel) rfl
theorem kd_X11_could : Cond.code yX11_could cX11_could 4 (some .int) ∈ lw_good := gmem (i := 1167) (by decide +kernel) rfl
theorem km_X11_278 : Cond.methodLink RX11 278 yX7_seek ∈ lw_good := gmem (i := 1168) (by decide +kernel) rfl
theorem ki_X7_seek : Cond.instanceMethod yX7_seek ∈ lw_good := gmem (i := 1169) (by decide +kernel) rfl
theorem ks_X7_seek : Cond.selects RX7 yX7_seek yX7_seek ∈ lw_good := gmem (i := 1170) (by decide +kernel) rfl
theorem kd_X7_seek : Cond.code yX7_seek cX7_seek 10 (some .int) ∈ lw_good := gmem (i := 1171) (by decide +kernel) rfl
theorem km_X7_24 : Cond.methodLink RX7 24 yX10_clear ∈ lw_good := gmem (i := 1172) (by decide +kernel) rfl
theorem ki_X10_clear : Cond.instanceMethod yX10_clear ∈ lw_good := gmem (i := 1173) (by decide +kernel) rfl
theorem ks_X10_clear : Cond.selects RX10 yX10_clear yX10_clear ∈ lw_good := gmem (i := 1174) (by decide +kernel) rfl
theorem kd_X10_clear : Cond.code yX10_clear cX10_clear 2 none ∈ lw_good := gmem (i := 1175) (by decide +kernel) rfl
theorem km_X10_31 : Cond.methodLink RX10 31 yJ9_min_7cf53 ∈ lw_good := gmem (i := 1176) (by decide +kernel) rfl
theorem km_X10_37 : Cond.methodLink RX10 37 yJ9_max_7cf53 ∈ lw_good := gmem (i := 1177) (by decide +kernel) rfl
theorem kt_J9_max_7cf53 : Cond.static yJ9_max_7cf53 ∈ lw_good := gmem (i := 1178) (by decide +kernel) rfl
theorem kd_J9_max_7cf53 : Cond.code yJ9_max_7cf53 cJ9_max_7cf53 2 (some .int) ∈ lw_good := gmem (i := 1179) (by decide +kernel) rfl
theorem km_X10_43 : Cond.methodLink RX10 43 yJ7_fill_53178 ∈ lw_good := gmem (i := 1180) (by decide +kernel) rfl
theorem km_X7_30 : Cond.methodLink RX7 30 yJ7_fill_53178 ∈ lw_good := gmem (i := 1181) (by decide +kernel) rfl
theorem km_X7_36 : Cond.methodLink RX7 36 yX7_pack ∈ lw_good := gmem (i := 1182) (by decide +kernel) rfl
theorem ki_X7_pack : Cond.instanceMethod yX7_pack ∈ lw_good := gmem (i := 1184) (by decide +kernel) rfl
theorem kd_X7_pack : Cond.code yX7_pack cX7_pack 1 none ∈ lw_good := gmem (i := 1185) (by decide +kernel) rfl
theorem km_X7_39 : Cond.methodLink RX7 39 yX10_offer ∈ lw_good := gmem (i := 1186) (by decide +kernel) rfl
theorem ki_X10_offer : Cond.instanceMethod yX10_offer ∈ lw_good := gmem (i := 1187) (by decide +kernel) rfl
theorem ks_X10_offer : Cond.selects RX10 yX10_offer yX10_offer ∈ lw_good := gmem (i := 1188) (by decide +kernel) rfl
theorem kd_X10_offer : Cond.code yX10_offer cX10_offer 6 (some .int) ∈ lw_good := gmem (i := 1189) (by decide +kernel) rfl
theorem km_X10_49 : Cond.methodLink RX10 49 yX10_hashOf ∈ lw_good := gmem (i := 1190) (by decide +kernel) rfl
theorem ki_X10_hashOf : Cond.instanceMethod yX10_hashOf ∈ lw_good := gmem (i := 1192) (by decide +kernel) rfl
theorem kd_X10_hashOf : Cond.code yX10_hashOf cX10_hashOf 4 (some .int) ∈ lw_good := gmem (i := 1193) (by decide +kernel) rfl
theorem kk_X10_63 : Cond.constant RX10 63 (739982445) ∈ lw_good := gmem (i := 1194) (by decide +kernel) rfl
theorem km_X10_53 : Cond.methodLink RX10 53 yX10_isSame ∈ lw_good := gmem (i := 1195) (by decide +kernel) rfl
theorem ki_X10_isSame : Cond.instanceMethod yX10_isSame ∈ lw_good := gmem (i := 1197) (by decide +kernel) rfl
theorem kd_X10_isSame : Cond.code yX10_isSame cX10_isSame 5 (some .boolean) ∈ lw_good := gmem (i := 1198) (by decide +kernel) rfl
theorem km_X10_57 : Cond.methodLink RX10 57 arraycopyName ∈ lw_good := gmem (i := 1199) (by decide +kernel) rfl
theorem km_X7_43 : Cond.methodLink RX7 43 yX7_isBehind ∈ lw_good := gmem (i := 1200) (by decide +kernel) rfl
theorem ki_X7_isBehind : Cond.instanceMethod yX7_isBehind ∈ lw_good := gmem (i := 1202) (by decide +kernel) rfl
theorem kd_X7_isBehind : Cond.code yX7_isBehind cX7_isBehind 7 (some .boolean) ∈ lw_good := gmem (i := 1203) (by decide +kernel) rfl
theorem km_X7_113 : Cond.methodLink RX7 113 yX7_isStarted ∈ lw_good := gmem (i := 1204) (by decide +kernel) rfl
theorem ki_X7_isStarted : Cond.instanceMethod yX7_isStarted ∈ lw_good := gmem (i := 1206) (by decide +kernel) rfl
theorem kd_X7_isStarted : Cond.code yX7_isStarted cX7_isStarted 4 (some .boolean) ∈ lw_good := gmem (i := 1207) (by decide +kernel) rfl
theorem km_X7_109 : Cond.methodLink RX7 109 yX7_isDone ∈ lw_good := gmem (i := 1208) (by decide +kernel) rfl
theorem ki_X7_isDone : Cond.instanceMethod yX7_isDone ∈ lw_good := gmem (i := 1210) (by decide +kernel) rfl
theorem kd_X7_isDone : Cond.code yX7_isDone cX7_isDone 3 (some .boolean) ∈ lw_good := gmem (i := 1211) (by decide +kernel) rfl
theorem km_X7_47 : Cond.methodLink RX7 47 yX7_show ∈ lw_good := gmem (i := 1212) (by decide +kernel) rfl
theorem ki_X7_show : Cond.instanceMethod yX7_show ∈ lw_good := gmem (i := 1214) (by decide +kernel) rfl
theorem kd_X7_show : Cond.code yX7_show cX7_show 5 (some .int) ∈ lw_good := gmem (i := 1215) (by decide +kernel) rfl
theorem km_X7_70 : Cond.methodLink RX7 70 yX10_pathTo ∈ lw_good := gmem (i := 1216) (by decide +kernel) rfl
theorem ki_X10_pathTo : Cond.instanceMethod yX10_pathTo ∈ lw_good := gmem (i := 1217) (by decide +kernel) rfl
theorem ks_X10_pathTo : Cond.selects RX10 yX10_pathTo yX10_pathTo ∈ lw_good := gmem (i := 1218) (by decide +kernel) rfl
theorem kd_X10_pathTo : Cond.code yX10_pathTo cX10_pathTo 6 (some .int) ∈ lw_good := gmem (i := 1219) (by decide +kernel) rfl
theorem km_X7_55 : Cond.methodLink RX7 55 yX10_load ∈ lw_good := gmem (i := 1220) (by decide +kernel) rfl
theorem ki_X10_load : Cond.instanceMethod yX10_load ∈ lw_good := gmem (i := 1221) (by decide +kernel) rfl
theorem ks_X10_load : Cond.selects RX10 yX10_load yX10_load ∈ lw_good := gmem (i := 1222) (by decide +kernel) rfl
theorem kd_X10_load : Cond.code yX10_load cX10_load 3 none ∈ lw_good := gmem (i := 1223) (by decide +kernel) rfl
theorem km_X7_59 : Cond.methodLink RX7 59 yX7_unpack ∈ lw_good := gmem (i := 1224) (by decide +kernel) rfl
theorem ki_X7_unpack : Cond.instanceMethod yX7_unpack ∈ lw_good := gmem (i := 1226) (by decide +kernel) rfl
theorem kd_X7_unpack : Cond.code yX7_unpack cX7_unpack 2 none ∈ lw_good := gmem (i := 1227) (by decide +kernel) rfl
theorem km_X7_62 : Cond.methodLink RX7 62 yX7_mayGo ∈ lw_good := gmem (i := 1228) (by decide +kernel) rfl
theorem ki_X7_mayGo : Cond.instanceMethod yX7_mayGo ∈ lw_good := gmem (i := 1230) (by decide +kernel) rfl
theorem kd_X7_mayGo : Cond.code yX7_mayGo cX7_mayGo 6 (some .boolean) ∈ lw_good := gmem (i := 1231) (by decide +kernel) rfl
theorem km_X7_122 : Cond.methodLink RX7 122 yX7_isFree ∈ lw_good := gmem (i := 1232) (by decide +kernel) rfl
theorem ki_X7_isFree : Cond.instanceMethod yX7_isFree ∈ lw_good := gmem (i := 1234) (by decide +kernel) rfl
theorem kd_X7_isFree : Cond.code yX7_isFree cX7_isFree 6 (some .boolean) ∈ lw_good := gmem (i := 1235) (by decide +kernel) rfl
theorem km_X7_66 : Cond.methodLink RX7 66 yX7_goOn ∈ lw_good := gmem (i := 1236) (by decide +kernel) rfl
theorem ki_X7_goOn : Cond.instanceMethod yX7_goOn ∈ lw_good := gmem (i := 1238) (by decide +kernel) rfl
theorem kd_X7_goOn : Cond.code yX7_goOn cX7_goOn 5 none ∈ lw_good := gmem (i := 1239) (by decide +kernel) rfl
theorem km_L_87 : Cond.methodLink RL 87 yX11_shown ∈ lw_good := gmem (i := 1240) (by decide +kernel) rfl
theorem ki_X11_shown : Cond.instanceMethod yX11_shown ∈ lw_good := gmem (i := 1241) (by decide +kernel) rfl
theorem ks_X11_shown : Cond.selects RX11 yX11_shown yX11_shown ∈ lw_good := gmem (i := 1242) (by decide +kernel) rfl
theorem kd_X11_shown : Cond.code yX11_shown cX11_shown 2 (some .int) ∈ lw_good := gmem (i := 1243) (by decide +kernel) rfl
theorem km_L_91 : Cond.methodLink RL 91 yX11_harm ∈ lw_good := gmem (i := 1244) (by decide +kernel) rfl
theorem ki_X11_harm : Cond.instanceMethod yX11_harm ∈ lw_good := gmem (i := 1245) (by decide +kernel) rfl
theorem ks_X11_harm : Cond.selects RX11 yX11_harm yX11_harm ∈ lw_good := gmem (i := 1246) (by decide +kernel) rfl
theorem kd_X11_harm : Cond.code yX11_harm cX11_harm 5 (some .int) ∈ lw_good := gmem (i := 1247) (by decide +kernel) rfl
theorem km_X11_298 : Cond.methodLink RX11 298 yX11_replay ∈ lw_good := gmem (i := 1248) (by decide +kernel) rfl
theorem ki_X11_replay : Cond.instanceMethod yX11_replay ∈ lw_good := gmem (i := 1250) (by decide +kernel) rfl
theorem kd_X11_replay : Cond.code yX11_replay cX11_replay 5 none ∈ lw_good := gmem (i := 1251) (by decide +kernel) rfl
theorem km_X11_306 : Cond.methodLink RX11 306 yX6_goTillAct ∈ lw_good := gmem (i := 1252) (by decide +kernel) rfl
theorem ki_X6_goTillAct : Cond.instanceMethod yX6_goTillAct ∈ lw_good := gmem (i := 1253) (by decide +kernel) rfl
theorem ks_X6_goTillAct : Cond.selects RX6 yX6_goTillAct yX6_goTillAct ∈ lw_good := gmem (i := 1254) (by decide +kernel) rfl
theorem kd_X6_goTillAct : Cond.code yX6_goTillAct cX6_goTillAct 3 none ∈ lw_good := gmem (i := 1255) (by decide +kernel) rfl
theorem km_X6_75 : Cond.methodLink RX6 75 yX6_go ∈ lw_good := gmem (i := 1256) (by decide +kernel) rfl
theorem km_X11_309 : Cond.methodLink RX11 309 yX6_finish ∈ lw_good := gmem (i := 1257) (by decide +kernel) rfl
theorem ki_X6_finish : Cond.instanceMethod yX6_finish ∈ lw_good := gmem (i := 1258) (by decide +kernel) rfl
theorem ks_X6_finish : Cond.selects RX6 yX6_finish yX6_finish ∈ lw_good := gmem (i := 1259) (by decide +kernel) rfl
theorem kd_X6_finish : Cond.code yX6_finish cX6_finish 3 none ∈ lw_good := gmem (i := 1260) (by decide +kernel) rfl
theorem km_X6_79 : Cond.methodLink RX6 79 yX6_leastThatCan ∈ lw_good := gmem (i := 1261) (by decide +kernel) rfl
theorem km_X11_303 : Cond.methodLink RX11 303 yX6_stuckBits ∈ lw_good := gmem (i := 1262) (by decide +kernel) rfl
theorem km_L_95 : Cond.methodLink RL 95 yX11_always ∈ lw_good := gmem (i := 1263) (by decide +kernel) rfl
theorem ki_X11_always : Cond.instanceMethod yX11_always ∈ lw_good := gmem (i := 1264) (by decide +kernel) rfl
theorem ks_X11_always : Cond.selects RX11 yX11_always yX11_always ∈ lw_good := gmem (i := 1265) (by decide +kernel) rfl
theorem kd_X11_always : Cond.code yX11_always cX11_always 4 (some .int) ∈ lw_good := gmem (i := 1266) (by decide +kernel) rfl
theorem km_L_99 : Cond.methodLink RL 99 yX11_habit ∈ lw_good := gmem (i := 1267) (by decide +kernel) rfl
theorem ki_X11_habit : Cond.instanceMethod yX11_habit ∈ lw_good := gmem (i := 1268) (by decide +kernel) rfl
theorem ks_X11_habit : Cond.selects RX11 yX11_habit yX11_habit ∈ lw_good := gmem (i := 1269) (by decide +kernel) rfl
theorem kd_X11_habit : Cond.code yX11_habit cX11_habit 5 (some .int) ∈ lw_good := gmem (i := 1270) (by decide +kernel) rfl
theorem km_X11_312 : Cond.methodLink RX11 312 yX5_areRivals ∈ lw_good := gmem (i := 1271) (by decide +kernel) rfl
theorem km_L_103 : Cond.methodLink RL 103 yX11_ring ∈ lw_good := gmem (i := 1272) (by decide +kernel) rfl
theorem ki_X11_ring : Cond.instanceMethod yX11_ring ∈ lw_good := gmem (i := 1273) (by decide +kernel) rfl
theorem ks_X11_ring : Cond.selects RX11 yX11_ring yX11_ring ∈ lw_good := gmem (i := 1274) (by decide +kernel) rfl
theorem kd_X11_ring : Cond.code yX11_ring cX11_ring 6 (some .int) ∈ lw_good := gmem (i := 1275) (by decide +kernel) rfl
theorem km_X11_316 : Cond.methodLink RX11 316 yX11_edgesTo ∈ lw_good := gmem (i := 1276) (by decide +kernel) rfl
theorem kt_X11_edgesTo : Cond.static yX11_edgesTo ∈ lw_good := gmem (i := 1277) (by decide +kernel) rfl
theorem kd_X11_edgesTo : Cond.code yX11_edgesTo cX11_edgesTo 4 (some .int) ∈ lw_good := gmem (i := 1278) (by decide +kernel) rfl
theorem km_L_107 : Cond.methodLink RL 107 yX11_ends ∈ lw_good := gmem (i := 1279) (by decide +kernel) rfl
theorem ki_X11_ends : Cond.instanceMethod yX11_ends ∈ lw_good := gmem (i := 1280) (by decide +kernel) rfl
theorem ks_X11_ends : Cond.selects RX11 yX11_ends yX11_ends ∈ lw_good := gmem (i := 1281) (by decide +kernel) rfl
theorem kd_X11_ends : Cond.code yX11_ends cX11_ends 1 (some .int) ∈ lw_good := gmem (i := 1282) (by decide +kernel) rfl
theorem km_X11_320 : Cond.methodLink RX11 320 yX11_goThroughAllRuns ∈ lw_good := gmem (i := 1283) (by decide +kernel) rfl
theorem ki_X11_goThroughAllRuns : Cond.instanceMethod yX11_goThroughAllRuns ∈ lw_good := gmem (i := 1285) (by decide +kernel) rfl
theorem kd_X11_goThroughAllRuns : Cond.code yX11_goThroughAllRuns cX11_goThroughAllRuns 1 none ∈ lw_good := gmem (i := 1286) (by decide +kernel) rfl
theorem km_X11_338 : Cond.methodLink RX11 338 yX0_explore ∈ lw_good := gmem (i := 1287) (by decide +kernel) rfl
theorem ki_X0_explore : Cond.instanceMethod yX0_explore ∈ lw_good := gmem (i := 1288) (by decide +kernel) rfl
theorem ks_X0_explore : Cond.selects RX0 yX0_explore yX0_explore ∈ lw_good := gmem (i := 1289) (by decide +kernel) rfl
theorem kd_X0_explore : Cond.code yX0_explore cX0_explore 5 none ∈ lw_good := gmem (i := 1290) (by decide +kernel) rfl
theorem km_X0_46 : Cond.methodLink RX0 46 yX10_clear ∈ lw_good := gmem (i := 1291) (by decide +kernel) rfl
theorem km_X0_52 : Cond.methodLink RX0 52 yX6_begin ∈ lw_good := gmem (i := 1292) (by decide +kernel) rfl
theorem km_X0_56 : Cond.methodLink RX0 56 yX6_packInto ∈ lw_good := gmem (i := 1293) (by decide +kernel) rfl
theorem ki_X6_packInto : Cond.instanceMethod yX6_packInto ∈ lw_good := gmem (i := 1294) (by decide +kernel) rfl
theorem ks_X6_packInto : Cond.selects RX6 yX6_packInto yX6_packInto ∈ lw_good := gmem (i := 1295) (by decide +kernel) rfl
theorem kd_X6_packInto : Cond.code yX6_packInto cX6_packInto 6 none ∈ lw_good := gmem (i := 1296) (by decide +kernel) rfl
theorem km_X6_83 : Cond.methodLink RX6 83 arraycopyName ∈ lw_good := gmem (i := 1297) (by decide +kernel) rfl
theorem km_X0_60 : Cond.methodLink RX0 60 yX10_offer ∈ lw_good := gmem (i := 1298) (by decide +kernel) rfl
theorem km_X0_67 : Cond.methodLink RX0 67 yX0_goOnFrom ∈ lw_good := gmem (i := 1299) (by decide +kernel) rfl
theorem ki_X0_goOnFrom : Cond.instanceMethod yX0_goOnFrom ∈ lw_good := gmem (i := 1301) (by decide +kernel) rfl
theorem kd_X0_goOnFrom : Cond.code yX0_goOnFrom cX0_goOnFrom 6 none ∈ lw_good := gmem (i := 1302) (by decide +kernel) rfl
theorem km_X0_74 : Cond.methodLink RX0 74 yX10_load ∈ lw_good := gmem (i := 1303) (by decide +kernel) rfl
theorem km_X0_78 : Cond.methodLink RX0 78 yX6_unpack ∈ lw_good := gmem (i := 1304) (by decide +kernel) rfl
theorem ki_X6_unpack : Cond.instanceMethod yX6_unpack ∈ lw_good := gmem (i := 1305) (by decide +kernel) rfl
theorem ks_X6_unpack : Cond.selects RX6 yX6_unpack yX6_unpack ∈ lw_good := gmem (i := 1306) (by decide +kernel) rfl
theorem kd_X6_unpack : Cond.code yX6_unpack cX6_unpack 6 none ∈ lw_good := gmem (i := 1307) (by decide +kernel) rfl
theorem km_X0_81 : Cond.methodLink RX0 81 yX6_ableBits ∈ lw_good := gmem (i := 1308) (by decide +kernel) rfl
theorem ki_X6_ableBits : Cond.instanceMethod yX6_ableBits ∈ lw_good := gmem (i := 1309) (by decide +kernel) rfl
theorem ks_X6_ableBits : Cond.selects RX6 yX6_ableBits yX6_ableBits ∈ lw_good := gmem (i := 1310) (by decide +kernel) rfl
theorem kd_X6_ableBits : Cond.code yX6_ableBits cX6_ableBits 3 (some .int) ∈ lw_good := gmem (i := 1311) (by decide +kernel) rfl
theorem km_X0_85 : Cond.methodLink RX0 85 yX6_stuckBits ∈ lw_good := gmem (i := 1312) (by decide +kernel) rfl
theorem km_X0_88 : Cond.methodLink RX0 88 yX0_noteEnd ∈ lw_good := gmem (i := 1313) (by decide +kernel) rfl
theorem ki_X0_noteEnd : Cond.instanceMethod yX0_noteEnd ∈ lw_good := gmem (i := 1315) (by decide +kernel) rfl
theorem kd_X0_noteEnd : Cond.code yX0_noteEnd cX0_noteEnd 5 none ∈ lw_good := gmem (i := 1316) (by decide +kernel) rfl
theorem km_X0_96 : Cond.methodLink RX0 96 yX10_pathTo ∈ lw_good := gmem (i := 1317) (by decide +kernel) rfl
theorem km_X0_100 : Cond.methodLink RX0 100 yX0_haveSameCells ∈ lw_good := gmem (i := 1318) (by decide +kernel) rfl
theorem kt_X0_haveSameCells : Cond.static yX0_haveSameCells ∈ lw_good := gmem (i := 1319) (by decide +kernel) rfl
theorem kd_X0_haveSameCells : Cond.code yX0_haveSameCells cX0_haveSameCells 4 (some .boolean) ∈ lw_good := gmem (i := 1320) (by decide +kernel) rfl
theorem km_X0_104 : Cond.methodLink RX0 104 yX10_partOf ∈ lw_good := gmem (i := 1321) (by decide +kernel) rfl
theorem ki_X10_partOf : Cond.instanceMethod yX10_partOf ∈ lw_good := gmem (i := 1322) (by decide +kernel) rfl
theorem ks_X10_partOf : Cond.selects RX10 yX10_partOf yX10_partOf ∈ lw_good := gmem (i := 1323) (by decide +kernel) rfl
theorem kd_X10_partOf : Cond.code yX10_partOf cX10_partOf 3 (some .int) ∈ lw_good := gmem (i := 1324) (by decide +kernel) rfl
theorem km_X0_92 : Cond.methodLink RX0 92 yX6_go ∈ lw_good := gmem (i := 1325) (by decide +kernel) rfl
theorem km_L_111 : Cond.methodLink RL 111 yX11_waits ∈ lw_good := gmem (i := 1326) (by decide +kernel) rfl
theorem ki_X11_waits : Cond.instanceMethod yX11_waits ∈ lw_good := gmem (i := 1327) (by decide +kernel) rfl
theorem ks_X11_waits : Cond.selects RX11 yX11_waits yX11_waits ∈ lw_good := gmem (i := 1328) (by decide +kernel) rfl
theorem kd_X11_waits : Cond.code yX11_waits cX11_waits 1 (some .int) ∈ lw_good := gmem (i := 1329) (by decide +kernel) rfl
theorem km_X11_329 : Cond.methodLink RX11 329 yX0_tellWaiting ∈ lw_good := gmem (i := 1330) (by decide +kernel) rfl
theorem ki_X0_tellWaiting : Cond.instanceMethod yX0_tellWaiting ∈ lw_good := gmem (i := 1331) (by decide +kernel) rfl
theorem ks_X0_tellWaiting : Cond.selects RX0 yX0_tellWaiting yX0_tellWaiting ∈ lw_good := gmem (i := 1332) (by decide +kernel) rfl
theorem kd_X0_tellWaiting : Cond.code yX0_tellWaiting cX0_tellWaiting 1 (some .int) ∈ lw_good := gmem (i := 1333) (by decide +kernel) rfl
theorem km_X0_108 : Cond.methodLink RX0 108 arraycopyName ∈ lw_good := gmem (i := 1334) (by decide +kernel) rfl
theorem km_L_115 : Cond.methodLink RL 115 yX11_led ∈ lw_good := gmem (i := 1335) (by decide +kernel) rfl
theorem ki_X11_led : Cond.instanceMethod yX11_led ∈ lw_good := gmem (i := 1336) (by decide +kernel) rfl
theorem ks_X11_led : Cond.selects RX11 yX11_led yX11_led ∈ lw_good := gmem (i := 1337) (by decide +kernel) rfl
theorem kd_X11_led : Cond.code yX11_led cX11_led 2 (some .int) ∈ lw_good := gmem (i := 1338) (by decide +kernel) rfl
theorem km_L_119 : Cond.methodLink RL 119 yX11_may ∈ lw_good := gmem (i := 1339) (by decide +kernel) rfl
theorem ki_X11_may : Cond.instanceMethod yX11_may ∈ lw_good := gmem (i := 1340) (by decide +kernel) rfl
theorem ks_X11_may : Cond.selects RX11 yX11_may yX11_may ∈ lw_good := gmem (i := 1341) (by decide +kernel) rfl
theorem kd_X11_may : Cond.code yX11_may cX11_may 2 (some .int) ∈ lw_good := gmem (i := 1342) (by decide +kernel) rfl
theorem km_X11_345 : Cond.methodLink RX11 345 yX11_meetingsBy ∈ lw_good := gmem (i := 1343) (by decide +kernel) rfl
theorem ki_X11_meetingsBy : Cond.instanceMethod yX11_meetingsBy ∈ lw_good := gmem (i := 1345) (by decide +kernel) rfl
theorem kd_X11_meetingsBy : Cond.code yX11_meetingsBy cX11_meetingsBy 4 (some .int) ∈ lw_good := gmem (i := 1346) (by decide +kernel) rfl
theorem km_L_123 : Cond.methodLink RL 123 yX11_least ∈ lw_good := gmem (i := 1347) (by decide +kernel) rfl
theorem ki_X11_least : Cond.instanceMethod yX11_least ∈ lw_good := gmem (i := 1348) (by decide +kernel) rfl
theorem ks_X11_least : Cond.selects RX11 yX11_least yX11_least ∈ lw_good := gmem (i := 1349) (by decide +kernel) rfl
theorem kd_X11_least : Cond.code yX11_least cX11_least 5 (some .int) ∈ lw_good := gmem (i := 1350) (by decide +kernel) rfl
theorem km_X11_348 : Cond.methodLink RX11 348 yX11_meets ∈ lw_good := gmem (i := 1351) (by decide +kernel) rfl
theorem km_L_127 : Cond.methodLink RL 127 yX11_mend ∈ lw_good := gmem (i := 1352) (by decide +kernel) rfl
theorem ki_X11_mend : Cond.instanceMethod yX11_mend ∈ lw_good := gmem (i := 1353) (by decide +kernel) rfl
theorem ks_X11_mend : Cond.selects RX11 yX11_mend yX11_mend ∈ lw_good := gmem (i := 1354) (by decide +kernel) rfl
theorem kd_X11_mend : Cond.code yX11_mend cX11_mend 4 (some .int) ∈ lw_good := gmem (i := 1355) (by decide +kernel) rfl
theorem km_L_131 : Cond.methodLink RL 131 yX11_gates ∈ lw_good := gmem (i := 1356) (by decide +kernel) rfl
theorem ki_X11_gates : Cond.instanceMethod yX11_gates ∈ lw_good := gmem (i := 1357) (by decide +kernel) rfl
theorem ks_X11_gates : Cond.selects RX11 yX11_gates yX11_gates ∈ lw_good := gmem (i := 1358) (by decide +kernel) rfl
theorem kd_X11_gates : Cond.code yX11_gates cX11_gates 3 (some .int) ∈ lw_good := gmem (i := 1359) (by decide +kernel) rfl
theorem km_L_135 : Cond.methodLink RL 135 yX11_blink ∈ lw_good := gmem (i := 1360) (by decide +kernel) rfl
theorem ki_X11_blink : Cond.instanceMethod yX11_blink ∈ lw_good := gmem (i := 1361) (by decide +kernel) rfl
theorem ks_X11_blink : Cond.selects RX11 yX11_blink yX11_blink ∈ lw_good := gmem (i := 1362) (by decide +kernel) rfl
theorem kd_X11_blink : Cond.code yX11_blink cX11_blink 4 (some .int) ∈ lw_good := gmem (i := 1363) (by decide +kernel) rfl
theorem km_X11_357 : Cond.methodLink RX11 357 yX4_isOnRing ∈ lw_good := gmem (i := 1364) (by decide +kernel) rfl
theorem ki_X4_isOnRing : Cond.instanceMethod yX4_isOnRing ∈ lw_good := gmem (i := 1365) (by decide +kernel) rfl
theorem ks_X4_isOnRing : Cond.selects RX4 yX4_isOnRing yX4_isOnRing ∈ lw_good := gmem (i := 1366) (by decide +kernel) rfl
theorem kd_X4_isOnRing : Cond.code yX4_isOnRing cX4_isOnRing 7 (some .boolean) ∈ lw_good := gmem (i := 1367) (by decide +kernel) rfl
theorem km_X4_123 : Cond.methodLink RX4 123 yX4_leadsTo ∈ lw_good := gmem (i := 1368) (by decide +kernel) rfl
theorem ki_X4_leadsTo : Cond.instanceMethod yX4_leadsTo ∈ lw_good := gmem (i := 1370) (by decide +kernel) rfl
theorem kd_X4_leadsTo : Cond.code yX4_leadsTo cX4_leadsTo 6 (some .boolean) ∈ lw_good := gmem (i := 1371) (by decide +kernel) rfl
theorem km_X4_127 : Cond.methodLink RX4 127 yX4_isEdge ∈ lw_good := gmem (i := 1372) (by decide +kernel) rfl
theorem ki_X4_isEdge : Cond.instanceMethod yX4_isEdge ∈ lw_good := gmem (i := 1374) (by decide +kernel) rfl
theorem kd_X4_isEdge : Cond.code yX4_isEdge cX4_isEdge 3 (some .boolean) ∈ lw_good := gmem (i := 1375) (by decide +kernel) rfl
theorem km_X4_131 : Cond.methodLink RX4 131 yX5_isBoltAct ∈ lw_good := gmem (i := 1376) (by decide +kernel) rfl
theorem ki_X5_isBoltAct : Cond.instanceMethod yX5_isBoltAct ∈ lw_good := gmem (i := 1377) (by decide +kernel) rfl
theorem ks_X5_isBoltAct : Cond.selects RX5 yX5_isBoltAct yX5_isBoltAct ∈ lw_good := gmem (i := 1378) (by decide +kernel) rfl
theorem kd_X5_isBoltAct : Cond.code yX5_isBoltAct cX5_isBoltAct 2 (some .boolean) ∈ lw_good := gmem (i := 1379) (by decide +kernel) rfl
theorem km_L_139 : Cond.methodLink RL 139 yX11_join ∈ lw_good := gmem (i := 1380) (by decide +kernel) rfl
theorem ki_X11_join : Cond.instanceMethod yX11_join ∈ lw_good := gmem (i := 1381) (by decide +kernel) rfl
theorem ks_X11_join : Cond.selects RX11 yX11_join yX11_join ∈ lw_good := gmem (i := 1382) (by decide +kernel) rfl
theorem kd_X11_join : Cond.code yX11_join cX11_join 2 (some .int) ∈ lw_good := gmem (i := 1383) (by decide +kernel) rfl
theorem km_X11_368 : Cond.methodLink RX11 368 yX1_enter ∈ lw_good := gmem (i := 1384) (by decide +kernel) rfl
theorem ki_X1_enter : Cond.instanceMethod yX1_enter ∈ lw_good := gmem (i := 1385) (by decide +kernel) rfl
theorem ks_X1_enter : Cond.selects RX1 yX1_enter yX1_enter ∈ lw_good := gmem (i := 1386) (by decide +kernel) rfl
theorem kd_X1_enter : Cond.code yX1_enter cX1_enter 7 (some .int) ∈ lw_good := gmem (i := 1387) (by decide +kernel) rfl
theorem km_X1_46 : Cond.methodLink RX1 46 yJ7_fill_53178 ∈ lw_good := gmem (i := 1388) (by decide +kernel) rfl
theorem km_X1_55 : Cond.methodLink RX1 55 yX2_isMeeting ∈ lw_good := gmem (i := 1389) (by decide +kernel) rfl
theorem km_X1_61 : Cond.methodLink RX1 61 yX1_put ∈ lw_good := gmem (i := 1390) (by decide +kernel) rfl
theorem ki_X1_put : Cond.instanceMethod yX1_put ∈ lw_good := gmem (i := 1392) (by decide +kernel) rfl
theorem kd_X1_put : Cond.code yX1_put cX1_put 8 (some .int) ∈ lw_good := gmem (i := 1393) (by decide +kernel) rfl
theorem km_X1_78 : Cond.methodLink RX1 78 yJ9_min_7cf53 ∈ lw_good := gmem (i := 1394) (by decide +kernel) rfl
theorem km_X1_65 : Cond.methodLink RX1 65 yJ9_max_7cf53 ∈ lw_good := gmem (i := 1395) (by decide +kernel) rfl
theorem km_X1_71 : Cond.methodLink RX1 71 yX1_countLog ∈ lw_good := gmem (i := 1396) (by decide +kernel) rfl
theorem ki_X1_countLog : Cond.instanceMethod yX1_countLog ∈ lw_good := gmem (i := 1398) (by decide +kernel) rfl
theorem kd_X1_countLog : Cond.code yX1_countLog cX1_countLog 3 none ∈ lw_good := gmem (i := 1399) (by decide +kernel) rfl
theorem km_L_143 : Cond.methodLink RL 143 yX11_joined ∈ lw_good := gmem (i := 1400) (by decide +kernel) rfl
theorem ki_X11_joined : Cond.instanceMethod yX11_joined ∈ lw_good := gmem (i := 1401) (by decide +kernel) rfl
theorem ks_X11_joined : Cond.selects RX11 yX11_joined yX11_joined ∈ lw_good := gmem (i := 1402) (by decide +kernel) rfl
theorem kd_X11_joined : Cond.code yX11_joined cX11_joined 4 (some .int) ∈ lw_good := gmem (i := 1403) (by decide +kernel) rfl
theorem km_L_147 : Cond.methodLink RL 147 yX11_status ∈ lw_good := gmem (i := 1404) (by decide +kernel) rfl
theorem ki_X11_status : Cond.instanceMethod yX11_status ∈ lw_good := gmem (i := 1405) (by decide +kernel) rfl
theorem ks_X11_status : Cond.selects RX11 yX11_status yX11_status ∈ lw_good := gmem (i := 1406) (by decide +kernel) rfl
theorem kd_X11_status : Cond.code yX11_status cX11_status 2 (some .int) ∈ lw_good := gmem (i := 1407) (by decide +kernel) rfl
theorem km_X11_393 : Cond.methodLink RX11 393 yX11_rowsThere ∈ lw_good := gmem (i := 1408) (by decide +kernel) rfl
theorem ki_X11_rowsThere : Cond.instanceMethod yX11_rowsThere ∈ lw_good := gmem (i := 1410) (by decide +kernel) rfl
theorem kd_X11_rowsThere : Cond.code yX11_rowsThere cX11_rowsThere 3 (some .int) ∈ lw_good := gmem (i := 1411) (by decide +kernel) rfl
theorem km_L_151 : Cond.methodLink RL 151 yX11_keep ∈ lw_good := gmem (i := 1412) (by decide +kernel) rfl
theorem ki_X11_keep : Cond.instanceMethod yX11_keep ∈ lw_good := gmem (i := 1413) (by decide +kernel) rfl
theorem ks_X11_keep : Cond.selects RX11 yX11_keep yX11_keep ∈ lw_good := gmem (i := 1414) (by decide +kernel) rfl
theorem kd_X11_keep : Cond.code yX11_keep cX11_keep 3 (some .int) ∈ lw_good := gmem (i := 1415) (by decide +kernel) rfl
theorem km_X11_402 : Cond.methodLink RX11 402 yX3_copyFrom ∈ lw_good := gmem (i := 1416) (by decide +kernel) rfl
theorem ki_X3_copyFrom : Cond.instanceMethod yX3_copyFrom ∈ lw_good := gmem (i := 1417) (by decide +kernel) rfl
theorem ks_X3_copyFrom : Cond.selects RX3 yX3_copyFrom yX3_copyFrom ∈ lw_good := gmem (i := 1418) (by decide +kernel) rfl
theorem kd_X3_copyFrom : Cond.code yX3_copyFrom cX3_copyFrom 2 none ∈ lw_good := gmem (i := 1419) (by decide +kernel) rfl
theorem km_X3_36 : Cond.methodLink RX3 36 yX9_copyFrom ∈ lw_good := gmem (i := 1420) (by decide +kernel) rfl
theorem km_X3_40 : Cond.methodLink RX3 40 yX5_copyFrom ∈ lw_good := gmem (i := 1421) (by decide +kernel) rfl
theorem ki_X5_copyFrom : Cond.instanceMethod yX5_copyFrom ∈ lw_good := gmem (i := 1422) (by decide +kernel) rfl
theorem ks_X5_copyFrom : Cond.selects RX5 yX5_copyFrom yX5_copyFrom ∈ lw_good := gmem (i := 1423) (by decide +kernel) rfl
theorem kd_X5_copyFrom : Cond.code yX5_copyFrom cX5_copyFrom 2 none ∈ lw_good := gmem (i := 1424) (by decide +kernel) rfl
theorem km_X3_43 : Cond.methodLink RX3 43 yX1_copyFrom ∈ lw_good := gmem (i := 1425) (by decide +kernel) rfl
theorem ki_X1_copyFrom : Cond.instanceMethod yX1_copyFrom ∈ lw_good := gmem (i := 1426) (by decide +kernel) rfl
theorem ks_X1_copyFrom : Cond.selects RX1 yX1_copyFrom yX1_copyFrom ∈ lw_good := gmem (i := 1427) (by decide +kernel) rfl
theorem kd_X1_copyFrom : Cond.code yX1_copyFrom cX1_copyFrom 2 none ∈ lw_good := gmem (i := 1428) (by decide +kernel) rfl
theorem km_X1_40 : Cond.methodLink RX1 40 arraycopyName ∈ lw_good := gmem (i := 1429) (by decide +kernel) rfl
theorem km_L_155 : Cond.methodLink RL 155 yX11_back ∈ lw_good := gmem (i := 1430) (by decide +kernel) rfl
theorem ki_X11_back : Cond.instanceMethod yX11_back ∈ lw_good := gmem (i := 1431) (by decide +kernel) rfl
theorem ks_X11_back : Cond.selects RX11 yX11_back yX11_back ∈ lw_good := gmem (i := 1432) (by decide +kernel) rfl
theorem kd_X11_back : Cond.code yX11_back cX11_back 3 (some .int) ∈ lw_good := gmem (i := 1433) (by decide +kernel) rfl
theorem km_L_159 : Cond.methodLink RL 159 yX11_row ∈ lw_good := gmem (i := 1434) (by decide +kernel) rfl
theorem ki_X11_row : Cond.instanceMethod yX11_row ∈ lw_good := gmem (i := 1435) (by decide +kernel) rfl
theorem ks_X11_row : Cond.selects RX11 yX11_row yX11_row ∈ lw_good := gmem (i := 1436) (by decide +kernel) rfl
theorem kd_X11_row : Cond.code yX11_row cX11_row 5 (some .int) ∈ lw_good := gmem (i := 1437) (by decide +kernel) rfl
theorem km_L_165 : Cond.methodLink RL 165 yX11_write ∈ lw_good := gmem (i := 1438) (by decide +kernel) rfl
theorem ki_X11_write : Cond.instanceMethod yX11_write ∈ lw_good := gmem (i := 1439) (by decide +kernel) rfl
theorem ks_X11_write : Cond.selects RX11 yX11_write yX11_write ∈ lw_good := gmem (i := 1440) (by decide +kernel) rfl
theorem kd_X11_write : Cond.code yX11_write cX11_write 5 (some .int) ∈ lw_good := gmem (i := 1441) (by decide +kernel) rfl
theorem km_X11_405 : Cond.methodLink RX11 405 yX11_cut ∈ lw_good := gmem (i := 1442) (by decide +kernel) rfl
theorem kt_X11_cut : Cond.static yX11_cut ∈ lw_good := gmem (i := 1443) (by decide +kernel) rfl
theorem kd_X11_cut : Cond.code yX11_cut cX11_cut 3 (some .long) ∈ lw_good := gmem (i := 1444) (by decide +kernel) rfl
theorem km_L_170 : Cond.methodLink RL 170 yX11_paste ∈ lw_good := gmem (i := 1445) (by decide +kernel) rfl
theorem ki_X11_paste : Cond.instanceMethod yX11_paste ∈ lw_good := gmem (i := 1446) (by decide +kernel) rfl
theorem ks_X11_paste : Cond.selects RX11 yX11_paste yX11_paste ∈ lw_good := gmem (i := 1447) (by decide +kernel) rfl
theorem kd_X11_paste : Cond.code yX11_paste cX11_paste 6 (some .int) ∈ lw_good := gmem (i := 1448) (by decide +kernel) rfl
theorem km_X11_409 : Cond.methodLink RX11 409 arraycopyName ∈ lw_good := gmem (i := 1449) (by decide +kernel) rfl
theorem kc_L_10 : Cond.classLink RL 10 RX12 ∈ lw_good := gmem (i := 1450) (by decide +kernel) rfl
theorem kq_X12 : Cond.instantiable RX12 63 ∈ lw_good := gmem (i := 1451) (by decide +kernel) rfl
theorem km_L_12 : Cond.methodLink RL 12 yX12_init ∈ lw_good := gmem (i := 1452) (by decide +kernel) rfl
theorem ki_X12_init : Cond.instanceMethod yX12_init ∈ lw_good := gmem (i := 1453) (by decide +kernel) rfl
theorem kd_X12_init : Cond.code yX12_init cX12_init 1 none ∈ lw_good := gmem (i := 1454) (by decide +kernel) rfl
theorem km_X12_7 : Cond.methodLink RX12 7 objectInit ∈ lw_good := gmem (i := 1455) (by decide +kernel) rfl
theorem kk_X12_73 : Cond.constant RX12 73 (42000) ∈ lw_good := gmem (i := 1456) (by decide +kernel) rfl
theorem kk_X12_101 : Cond.constant RX12 101 (99000) ∈ lw_good := gmem (i := 1457) (by decide +kernel) rfl
theorem kf_X12_13 : Cond.fieldLink RX12 13 "OneCupModel" "world" "[I" ∈ lw_good := gmem (i := 1458) (by decide +kernel) rfl
theorem kf_X12_17 : Cond.fieldLink RX12 17 "OneCupModel" "images" "[I" ∈ lw_good := gmem (i := 1459) (by decide +kernel) rfl
theorem kf_X12_20 : Cond.fieldLink RX12 20 "OneCupModel" "hasImage" "[Z" ∈ lw_good := gmem (i := 1460) (by decide +kernel) rfl
theorem kf_X12_142 : Cond.fieldLink RX12 142 "OneCupModel" "refusals" "I" ∈ lw_good := gmem (i := 1461) (by decide +kernel) rfl
theorem kf_X12_24 : Cond.fieldLink RX12 24 "OneCupModel" "tape" "[B" ∈ lw_good := gmem (i := 1462) (by decide +kernel) rfl
theorem kf_X12_155 : Cond.fieldLink RX12 155 "OneCupModel" "taped" "I" ∈ lw_good := gmem (i := 1463) (by decide +kernel) rfl
theorem kf_X12_28 : Cond.fieldLink RX12 28 "OneCupModel" "five" "[I" ∈ lw_good := gmem (i := 1464) (by decide +kernel) rfl
theorem kf_X12_158 : Cond.fieldLink RX12 158 "OneCupModel" "size" "I" ∈ lw_good := gmem (i := 1465) (by decide +kernel) rfl
theorem kf_X12_161 : Cond.fieldLink RX12 161 "OneCupModel" "at" "I" ∈ lw_good := gmem (i := 1466) (by decide +kernel) rfl
theorem kf_X12_168 : Cond.fieldLink RX12 168 "OneCupModel" "from" "I" ∈ lw_good := gmem (i := 1467) (by decide +kernel) rfl
theorem kf_X12_171 : Cond.fieldLink RX12 171 "OneCupModel" "token" "I" ∈ lw_good := gmem (i := 1468) (by decide +kernel) rfl
theorem kf_X12_182 : Cond.fieldLink RX12 182 "OneCupModel" "value" "I" ∈ lw_good := gmem (i := 1469) (by decide +kernel) rfl
theorem kf_X12_195 : Cond.fieldLink RX12 195 "OneCupModel" "faultKind" "I" ∈ lw_good := gmem (i := 1470) (by decide +kernel) rfl
theorem kf_X12_31 : Cond.fieldLink RX12 31 "OneCupModel" "faultPlace" "I" ∈ lw_good := gmem (i := 1471) (by decide +kernel) rfl
theorem kf_X12_34 : Cond.fieldLink RX12 34 "OneCupModel" "fresh" "[I" ∈ lw_good := gmem (i := 1472) (by decide +kernel) rfl
theorem kf_X12_37 : Cond.fieldLink RX12 37 "OneCupModel" "freshMany" "[I" ∈ lw_good := gmem (i := 1473) (by decide +kernel) rfl
theorem kf_X12_40 : Cond.fieldLink RX12 40 "OneCupModel" "freshTold" "[Z" ∈ lw_good := gmem (i := 1474) (by decide +kernel) rfl
theorem kf_X12_225 : Cond.fieldLink RX12 225 "OneCupModel" "hand" "I" ∈ lw_good := gmem (i := 1475) (by decide +kernel) rfl
theorem kf_X12_43 : Cond.fieldLink RX12 43 "OneCupModel" "now" "[I" ∈ lw_good := gmem (i := 1476) (by decide +kernel) rfl
theorem kf_X12_310 : Cond.fieldLink RX12 310 "OneCupModel" "actSort" "I" ∈ lw_good := gmem (i := 1477) (by decide +kernel) rfl
theorem kf_X12_313 : Cond.fieldLink RX12 313 "OneCupModel" "actWhat" "I" ∈ lw_good := gmem (i := 1478) (by decide +kernel) rfl
theorem kf_X12_316 : Cond.fieldLink RX12 316 "OneCupModel" "actValue" "I" ∈ lw_good := gmem (i := 1479) (by decide +kernel) rfl
theorem kf_X12_319 : Cond.fieldLink RX12 319 "OneCupModel" "actPlace" "I" ∈ lw_good := gmem (i := 1480) (by decide +kernel) rfl
theorem kf_X12_46 : Cond.fieldLink RX12 46 "OneCupModel" "done" "[I" ∈ lw_good := gmem (i := 1481) (by decide +kernel) rfl
theorem kf_X12_49 : Cond.fieldLink RX12 49 "OneCupModel" "gatesOf" "[I" ∈ lw_good := gmem (i := 1482) (by decide +kernel) rfl
theorem kf_X12_52 : Cond.fieldLink RX12 52 "OneCupModel" "inGates" "[I" ∈ lw_good := gmem (i := 1483) (by decide +kernel) rfl
theorem kf_X12_55 : Cond.fieldLink RX12 55 "OneCupModel" "gateIn" "[I" ∈ lw_good := gmem (i := 1484) (by decide +kernel) rfl
theorem kf_X12_58 : Cond.fieldLink RX12 58 "OneCupModel" "orderers" "I" ∈ lw_good := gmem (i := 1485) (by decide +kernel) rfl
theorem kf_X12_381 : Cond.fieldLink RX12 381 "OneCupModel" "guarded" "I" ∈ lw_good := gmem (i := 1486) (by decide +kernel) rfl
theorem kf_X12_61 : Cond.fieldLink RX12 61 "OneCupModel" "ahead" "[I" ∈ lw_good := gmem (i := 1487) (by decide +kernel) rfl
theorem kf_X12_64 : Cond.fieldLink RX12 64 "OneCupModel" "clock" "[I" ∈ lw_good := gmem (i := 1488) (by decide +kernel) rfl
theorem kf_X12_67 : Cond.fieldLink RX12 67 "OneCupModel" "steps" "[I" ∈ lw_good := gmem (i := 1489) (by decide +kernel) rfl
theorem kf_X12_70 : Cond.fieldLink RX12 70 "OneCupModel" "trail" "[I" ∈ lw_good := gmem (i := 1490) (by decide +kernel) rfl
theorem kf_X12_74 : Cond.fieldLink RX12 74 "OneCupModel" "orders" "[I" ∈ lw_good := gmem (i := 1491) (by decide +kernel) rfl
theorem kf_X12_77 : Cond.fieldLink RX12 77 "OneCupModel" "parent" "[I" ∈ lw_good := gmem (i := 1492) (by decide +kernel) rfl
theorem kf_X12_80 : Cond.fieldLink RX12 80 "OneCupModel" "byHand" "[I" ∈ lw_good := gmem (i := 1493) (by decide +kernel) rfl
theorem kf_X12_426 : Cond.fieldLink RX12 426 "OneCupModel" "laid" "I" ∈ lw_good := gmem (i := 1494) (by decide +kernel) rfl
theorem kf_X12_447 : Cond.fieldLink RX12 447 "OneCupModel" "found" "I" ∈ lw_good := gmem (i := 1495) (by decide +kernel) rfl
theorem kf_X12_83 : Cond.fieldLink RX12 83 "OneCupModel" "one" "[I" ∈ lw_good := gmem (i := 1496) (by decide +kernel) rfl
theorem kf_X12_86 : Cond.fieldLink RX12 86 "OneCupModel" "order" "[I" ∈ lw_good := gmem (i := 1497) (by decide +kernel) rfl
theorem kf_X12_450 : Cond.fieldLink RX12 450 "OneCupModel" "orderMany" "I" ∈ lw_good := gmem (i := 1498) (by decide +kernel) rfl
theorem kf_X12_453 : Cond.fieldLink RX12 453 "OneCupModel" "harmI" "I" ∈ lw_good := gmem (i := 1499) (by decide +kernel) rfl
theorem kf_X12_456 : Cond.fieldLink RX12 456 "OneCupModel" "harmJ" "I" ∈ lw_good := gmem (i := 1500) (by decide +kernel) rfl
theorem kf_X12_300 : Cond.fieldLink RX12 300 "OneCupModel" "hasHarm" "Z" ∈ lw_good := gmem (i := 1501) (by decide +kernel) rfl
theorem kf_X12_89 : Cond.fieldLink RX12 89 "OneCupModel" "actOf" "[I" ∈ lw_good := gmem (i := 1502) (by decide +kernel) rfl
theorem kf_X12_92 : Cond.fieldLink RX12 92 "OneCupModel" "actMany" "[I" ∈ lw_good := gmem (i := 1503) (by decide +kernel) rfl
theorem kf_X12_95 : Cond.fieldLink RX12 95 "OneCupModel" "firstEnd" "[I" ∈ lw_good := gmem (i := 1504) (by decide +kernel) rfl
theorem kf_X12_98 : Cond.fieldLink RX12 98 "OneCupModel" "after" "[I" ∈ lw_good := gmem (i := 1505) (by decide +kernel) rfl
theorem kf_X12_102 : Cond.fieldLink RX12 102 "OneCupModel" "runs0" "[I" ∈ lw_good := gmem (i := 1506) (by decide +kernel) rfl
theorem kf_X12_105 : Cond.fieldLink RX12 105 "OneCupModel" "endOf" "[I" ∈ lw_good := gmem (i := 1507) (by decide +kernel) rfl
theorem kf_X12_108 : Cond.fieldLink RX12 108 "OneCupModel" "ledBy" "[I" ∈ lw_good := gmem (i := 1508) (by decide +kernel) rfl
theorem kf_X12_480 : Cond.fieldLink RX12 480 "OneCupModel" "ledMany" "I" ∈ lw_good := gmem (i := 1509) (by decide +kernel) rfl
theorem kf_X12_111 : Cond.fieldLink RX12 111 "OneCupModel" "node" "[I" ∈ lw_good := gmem (i := 1510) (by decide +kernel) rfl
theorem kf_X12_114 : Cond.fieldLink RX12 114 "OneCupModel" "depth" "[I" ∈ lw_good := gmem (i := 1511) (by decide +kernel) rfl
theorem kf_X12_117 : Cond.fieldLink RX12 117 "OneCupModel" "outer" "[I" ∈ lw_good := gmem (i := 1512) (by decide +kernel) rfl
theorem kf_X12_120 : Cond.fieldLink RX12 120 "OneCupModel" "isMet" "[Z" ∈ lw_good := gmem (i := 1513) (by decide +kernel) rfl
theorem kf_X12_123 : Cond.fieldLink RX12 123 "OneCupModel" "queue" "[I" ∈ lw_good := gmem (i := 1514) (by decide +kernel) rfl
theorem kf_X12_126 : Cond.fieldLink RX12 126 "OneCupModel" "book" "[I" ∈ lw_good := gmem (i := 1515) (by decide +kernel) rfl
theorem kf_X12_129 : Cond.fieldLink RX12 129 "OneCupModel" "many" "[I" ∈ lw_good := gmem (i := 1516) (by decide +kernel) rfl
theorem kf_X12_132 : Cond.fieldLink RX12 132 "OneCupModel" "width" "[I" ∈ lw_good := gmem (i := 1517) (by decide +kernel) rfl
theorem kf_X12_135 : Cond.fieldLink RX12 135 "OneCupModel" "numbers" "[J" ∈ lw_good := gmem (i := 1518) (by decide +kernel) rfl
theorem kf_X12_139 : Cond.fieldLink RX12 139 "OneCupModel" "moved" "[J" ∈ lw_good := gmem (i := 1519) (by decide +kernel) rfl
theorem ka_boolean : Cond.arrayClass .boolean ∈ lw_good := gmem (i := 1647) (by decide +kernel) rfl
theorem km_L_154 : Cond.methodLink RL 154 yX12_keep ∈ lw_good := gmem (i := 1648) (by decide +kernel) rfl
theorem ki_X12_keep : Cond.instanceMethod yX12_keep ∈ lw_good := gmem (i := 1649) (by decide +kernel) rfl
theorem ks_X12_keep : Cond.selects RX12 yX12_keep yX12_keep ∈ lw_good := gmem (i := 1650) (by decide +kernel) rfl
theorem kd_X12_keep : Cond.code yX12_keep cX12_keep 3 (some .int) ∈ lw_good := gmem (i := 1651) (by decide +kernel) rfl
theorem kl_X12_145 : Cond.constantLong RX12 145 (2) ∈ lw_good := gmem (i := 1652) (by decide +kernel) rfl
theorem km_X12_147 : Cond.methodLink RX12 147 yX12_in ∈ lw_good := gmem (i := 1653) (by decide +kernel) rfl
theorem kt_X12_in : Cond.static yX12_in ∈ lw_good := gmem (i := 1654) (by decide +kernel) rfl
theorem kd_X12_in : Cond.code yX12_in cX12_in 6 (some .boolean) ∈ lw_good := gmem (i := 1655) (by decide +kernel) rfl
theorem km_X12_151 : Cond.methodLink RX12 151 yX12_no ∈ lw_good := gmem (i := 1656) (by decide +kernel) rfl
theorem ki_X12_no : Cond.instanceMethod yX12_no ∈ lw_good := gmem (i := 1658) (by decide +kernel) rfl
theorem kd_X12_no : Cond.code yX12_no cX12_no 1 (some .int) ∈ lw_good := gmem (i := 1659) (by decide +kernel) rfl
theorem km_L_17 : Cond.methodLink RL 17 yX12_feed ∈ lw_good := gmem (i := 1660) (by decide +kernel) rfl
theorem ki_X12_feed : Cond.instanceMethod yX12_feed ∈ lw_good := gmem (i := 1661) (by decide +kernel) rfl
theorem ks_X12_feed : Cond.selects RX12 yX12_feed yX12_feed ∈ lw_good := gmem (i := 1662) (by decide +kernel) rfl
theorem kd_X12_feed : Cond.code yX12_feed cX12_feed 7 (some .int) ∈ lw_good := gmem (i := 1663) (by decide +kernel) rfl
theorem km_L_22 : Cond.methodLink RL 22 yX12_end ∈ lw_good := gmem (i := 1664) (by decide +kernel) rfl
theorem ki_X12_end : Cond.instanceMethod yX12_end ∈ lw_good := gmem (i := 1665) (by decide +kernel) rfl
theorem ks_X12_end : Cond.selects RX12 yX12_end yX12_end ∈ lw_good := gmem (i := 1666) (by decide +kernel) rfl
theorem kd_X12_end : Cond.code yX12_end cX12_end 2 (some .int) ∈ lw_good := gmem (i := 1667) (by decide +kernel) rfl
theorem km_L_31 : Cond.methodLink RL 31 yX12_fault ∈ lw_good := gmem (i := 1668) (by decide +kernel) rfl
theorem ki_X12_fault : Cond.instanceMethod yX12_fault ∈ lw_good := gmem (i := 1669) (by decide +kernel) rfl
theorem ks_X12_fault : Cond.selects RX12 yX12_fault yX12_fault ∈ lw_good := gmem (i := 1670) (by decide +kernel) rfl
theorem kd_X12_fault : Cond.code yX12_fault cX12_fault 2 (some .int) ∈ lw_good := gmem (i := 1671) (by decide +kernel) rfl
theorem km_L_27 : Cond.methodLink RL 27 yX12_text ∈ lw_good := gmem (i := 1672) (by decide +kernel) rfl
theorem ki_X12_text : Cond.instanceMethod yX12_text ∈ lw_good := gmem (i := 1673) (by decide +kernel) rfl
theorem ks_X12_text : Cond.selects RX12 yX12_text yX12_text ∈ lw_good := gmem (i := 1674) (by decide +kernel) rfl
theorem kd_X12_text : Cond.code yX12_text cX12_text 3 (some .int) ∈ lw_good := gmem (i := 1675) (by decide +kernel) rfl
theorem km_X12_215 : Cond.methodLink RX12 215 yX12_step ∈ lw_good := gmem (i := 1676) (by decide +kernel) rfl
theorem ki_X12_step : Cond.instanceMethod yX12_step ∈ lw_good := gmem (i := 1678) (by decide +kernel) rfl
theorem kd_X12_step : Cond.code yX12_step cX12_step 2 none ∈ lw_good := gmem (i := 1679) (by decide +kernel) rfl
theorem km_X12_164 : Cond.methodLink RX12 164 yX12_see ∈ lw_good := gmem (i := 1680) (by decide +kernel) rfl
theorem ki_X12_see : Cond.instanceMethod yX12_see ∈ lw_good := gmem (i := 1682) (by decide +kernel) rfl
theorem kd_X12_see : Cond.code yX12_see cX12_see 2 (some .int) ∈ lw_good := gmem (i := 1683) (by decide +kernel) rfl
theorem kl_X12_174 : Cond.constantLong RX12 174 (97) ∈ lw_good := gmem (i := 1684) (by decide +kernel) rfl
theorem kl_X12_176 : Cond.constantLong RX12 176 (122) ∈ lw_good := gmem (i := 1685) (by decide +kernel) rfl
theorem kl_X12_178 : Cond.constantLong RX12 178 (48) ∈ lw_good := gmem (i := 1686) (by decide +kernel) rfl
theorem kl_X12_180 : Cond.constantLong RX12 180 (57) ∈ lw_good := gmem (i := 1687) (by decide +kernel) rfl
theorem km_X12_185 : Cond.methodLink RX12 185 yJ9_min_7cf53 ∈ lw_good := gmem (i := 1688) (by decide +kernel) rfl
theorem km_X12_191 : Cond.methodLink RX12 191 yX12_isMark ∈ lw_good := gmem (i := 1689) (by decide +kernel) rfl
theorem kt_X12_isMark : Cond.static yX12_isMark ∈ lw_good := gmem (i := 1690) (by decide +kernel) rfl
theorem kd_X12_isMark : Cond.code yX12_isMark cX12_isMark 1 (some .boolean) ∈ lw_good := gmem (i := 1691) (by decide +kernel) rfl
theorem km_X12_198 : Cond.methodLink RX12 198 yX12_good ∈ lw_good := gmem (i := 1692) (by decide +kernel) rfl
theorem ki_X12_good : Cond.instanceMethod yX12_good ∈ lw_good := gmem (i := 1694) (by decide +kernel) rfl
theorem kd_X12_good : Cond.code yX12_good cX12_good 1 (some .boolean) ∈ lw_good := gmem (i := 1695) (by decide +kernel) rfl
theorem km_X12_294 : Cond.methodLink RX12 294 yX12_readHand ∈ lw_good := gmem (i := 1696) (by decide +kernel) rfl
theorem ki_X12_readHand : Cond.instanceMethod yX12_readHand ∈ lw_good := gmem (i := 1698) (by decide +kernel) rfl
theorem kd_X12_readHand : Cond.code yX12_readHand cX12_readHand 1 none ∈ lw_good := gmem (i := 1699) (by decide +kernel) rfl
theorem km_X12_240 : Cond.methodLink RX12 240 yX12_takes ∈ lw_good := gmem (i := 1701) (by decide +kernel) rfl
theorem ki_X12_takes : Cond.instanceMethod yX12_takes ∈ lw_good := gmem (i := 1703) (by decide +kernel) rfl
theorem kd_X12_takes : Cond.code yX12_takes cX12_takes 3 (some .boolean) ∈ lw_good := gmem (i := 1704) (by decide +kernel) rfl
theorem km_X12_211 : Cond.methodLink RX12 211 yX12_is ∈ lw_good := gmem (i := 1705) (by decide +kernel) rfl
theorem ki_X12_is : Cond.instanceMethod yX12_is ∈ lw_good := gmem (i := 1707) (by decide +kernel) rfl
theorem kd_X12_is : Cond.code yX12_is cX12_is 4 (some .boolean) ∈ lw_good := gmem (i := 1708) (by decide +kernel) rfl
theorem km_X12_202 : Cond.methodLink RX12 202 yJ0_length_8abf5 ∈ lw_good := gmem (i := 1709) (by decide +kernel) rfl
theorem km_X12_207 : Cond.methodLink RX12 207 yJ0_charAt_5068e ∈ lw_good := gmem (i := 1710) (by decide +kernel) rfl
theorem km_X12_221 : Cond.methodLink RX12 221 yX12_wrong ∈ lw_good := gmem (i := 1711) (by decide +kernel) rfl
theorem ki_X12_wrong : Cond.instanceMethod yX12_wrong ∈ lw_good := gmem (i := 1713) (by decide +kernel) rfl
theorem kd_X12_wrong : Cond.code yX12_wrong cX12_wrong 2 none ∈ lw_good := gmem (i := 1714) (by decide +kernel) rfl
theorem kl_X12_292 : Cond.constantLong RX12 292 (5) ∈ lw_good := gmem (i := 1715) (by decide +kernel) rfl
theorem km_X12_246 : Cond.methodLink RX12 246 yX12_number ∈ lw_good := gmem (i := 1716) (by decide +kernel) rfl
theorem ki_X12_number : Cond.instanceMethod yX12_number ∈ lw_good := gmem (i := 1718) (by decide +kernel) rfl
theorem kd_X12_number : Cond.code yX12_number cX12_number 4 (some .int) ∈ lw_good := gmem (i := 1719) (by decide +kernel) rfl
theorem km_X12_253 : Cond.methodLink RX12 253 yX12_readSteps ∈ lw_good := gmem (i := 1720) (by decide +kernel) rfl
theorem ki_X12_readSteps : Cond.instanceMethod yX12_readSteps ∈ lw_good := gmem (i := 1722) (by decide +kernel) rfl
theorem kd_X12_readSteps : Cond.code yX12_readSteps cX12_readSteps 2 none ∈ lw_good := gmem (i := 1723) (by decide +kernel) rfl
theorem km_X12_218 : Cond.methodLink RX12 218 yX12_isSign ∈ lw_good := gmem (i := 1724) (by decide +kernel) rfl
theorem ki_X12_isSign : Cond.instanceMethod yX12_isSign ∈ lw_good := gmem (i := 1726) (by decide +kernel) rfl
theorem kd_X12_isSign : Cond.code yX12_isSign cX12_isSign 2 (some .boolean) ∈ lw_good := gmem (i := 1727) (by decide +kernel) rfl
theorem km_X12_232 : Cond.methodLink RX12 232 yX12_needsSign ∈ lw_good := gmem (i := 1728) (by decide +kernel) rfl
theorem ki_X12_needsSign : Cond.instanceMethod yX12_needsSign ∈ lw_good := gmem (i := 1730) (by decide +kernel) rfl
theorem kd_X12_needsSign : Cond.code yX12_needsSign cX12_needsSign 2 none ∈ lw_good := gmem (i := 1731) (by decide +kernel) rfl
theorem km_X12_235 : Cond.methodLink RX12 235 yX12_readStep ∈ lw_good := gmem (i := 1732) (by decide +kernel) rfl
theorem ki_X12_readStep : Cond.instanceMethod yX12_readStep ∈ lw_good := gmem (i := 1734) (by decide +kernel) rfl
theorem kd_X12_readStep : Cond.code yX12_readStep cX12_readStep 7 none ∈ lw_good := gmem (i := 1735) (by decide +kernel) rfl
theorem km_X12_243 : Cond.methodLink RX12 243 yX12_letter ∈ lw_good := gmem (i := 1737) (by decide +kernel) rfl
theorem ki_X12_letter : Cond.instanceMethod yX12_letter ∈ lw_good := gmem (i := 1739) (by decide +kernel) rfl
theorem kd_X12_letter : Cond.code yX12_letter cX12_letter 4 (some .int) ∈ lw_good := gmem (i := 1740) (by decide +kernel) rfl
theorem km_X12_249 : Cond.methodLink RX12 249 yX12_adds ∈ lw_good := gmem (i := 1741) (by decide +kernel) rfl
theorem ki_X12_adds : Cond.instanceMethod yX12_adds ∈ lw_good := gmem (i := 1743) (by decide +kernel) rfl
theorem kd_X12_adds : Cond.code yX12_adds cX12_adds 8 none ∈ lw_good := gmem (i := 1744) (by decide +kernel) rfl
theorem km_X12_228 : Cond.methodLink RX12 228 yX12_codeAt ∈ lw_good := gmem (i := 1745) (by decide +kernel) rfl
theorem ki_X12_codeAt : Cond.instanceMethod yX12_codeAt ∈ lw_good := gmem (i := 1747) (by decide +kernel) rfl
theorem kd_X12_codeAt : Cond.code yX12_codeAt cX12_codeAt 2 (some .int) ∈ lw_good := gmem (i := 1748) (by decide +kernel) rfl
theorem kk_X12_231 : Cond.constant RX12 231 (100000) ∈ lw_good := gmem (i := 1749) (by decide +kernel) rfl
theorem km_X12_258 : Cond.methodLink RX12 258 yX12_again ∈ lw_good := gmem (i := 1751) (by decide +kernel) rfl
theorem ki_X12_again : Cond.instanceMethod yX12_again ∈ lw_good := gmem (i := 1753) (by decide +kernel) rfl
theorem kd_X12_again : Cond.code yX12_again cX12_again 6 none ∈ lw_good := gmem (i := 1754) (by decide +kernel) rfl
theorem km_X12_264 : Cond.methodLink RX12 264 yX12_readPlain ∈ lw_good := gmem (i := 1756) (by decide +kernel) rfl
theorem ki_X12_readPlain : Cond.instanceMethod yX12_readPlain ∈ lw_good := gmem (i := 1758) (by decide +kernel) rfl
theorem kd_X12_readPlain : Cond.code yX12_readPlain cX12_readPlain 4 none ∈ lw_good := gmem (i := 1759) (by decide +kernel) rfl
theorem km_X12_269 : Cond.methodLink RX12 269 yX12_lays ∈ lw_good := gmem (i := 1761) (by decide +kernel) rfl
theorem ki_X12_lays : Cond.instanceMethod yX12_lays ∈ lw_good := gmem (i := 1763) (by decide +kernel) rfl
theorem kd_X12_lays : Cond.code yX12_lays cX12_lays 5 none ∈ lw_good := gmem (i := 1764) (by decide +kernel) rfl
theorem km_X12_297 : Cond.methodLink RX12 297 yX12_clears ∈ lw_good := gmem (i := 1774) (by decide +kernel) rfl
theorem ki_X12_clears : Cond.instanceMethod yX12_clears ∈ lw_good := gmem (i := 1776) (by decide +kernel) rfl
theorem kd_X12_clears : Cond.code yX12_clears cX12_clears 2 none ∈ lw_good := gmem (i := 1777) (by decide +kernel) rfl
theorem km_L_35 : Cond.methodLink RL 35 yX12_run ∈ lw_good := gmem (i := 1778) (by decide +kernel) rfl
theorem ki_X12_run : Cond.instanceMethod yX12_run ∈ lw_good := gmem (i := 1779) (by decide +kernel) rfl
theorem ks_X12_run : Cond.selects RX12 yX12_run yX12_run ∈ lw_good := gmem (i := 1780) (by decide +kernel) rfl
theorem kd_X12_run : Cond.code yX12_run cX12_run 2 (some .int) ∈ lw_good := gmem (i := 1781) (by decide +kernel) rfl
theorem km_X12_346 : Cond.methodLink RX12 346 yX12_isSlot ∈ lw_good := gmem (i := 1782) (by decide +kernel) rfl
theorem kt_X12_isSlot : Cond.static yX12_isSlot ∈ lw_good := gmem (i := 1783) (by decide +kernel) rfl
theorem kd_X12_isSlot : Cond.code yX12_isSlot cX12_isSlot 1 (some .boolean) ∈ lw_good := gmem (i := 1784) (by decide +kernel) rfl
theorem kl_X12_513 : Cond.constantLong RX12 513 (3) ∈ lw_good := gmem (i := 1785) (by decide +kernel) rfl
theorem km_X12_349 : Cond.methodLink RX12 349 yX12_runBy ∈ lw_good := gmem (i := 1786) (by decide +kernel) rfl
theorem ki_X12_runBy : Cond.instanceMethod yX12_runBy ∈ lw_good := gmem (i := 1788) (by decide +kernel) rfl
theorem kd_X12_runBy : Cond.code yX12_runBy cX12_runBy 5 (some .int) ∈ lw_good := gmem (i := 1789) (by decide +kernel) rfl
theorem km_X12_334 : Cond.methodLink RX12 334 yX12_begins ∈ lw_good := gmem (i := 1790) (by decide +kernel) rfl
theorem ki_X12_begins : Cond.instanceMethod yX12_begins ∈ lw_good := gmem (i := 1792) (by decide +kernel) rfl
theorem kd_X12_begins : Cond.code yX12_begins cX12_begins 2 none ∈ lw_good := gmem (i := 1793) (by decide +kernel) rfl
theorem km_X12_322 : Cond.methodLink RX12 322 yX12_canGo ∈ lw_good := gmem (i := 1794) (by decide +kernel) rfl
theorem ki_X12_canGo : Cond.instanceMethod yX12_canGo ∈ lw_good := gmem (i := 1796) (by decide +kernel) rfl
theorem kd_X12_canGo : Cond.code yX12_canGo cX12_canGo 4 (some .boolean) ∈ lw_good := gmem (i := 1797) (by decide +kernel) rfl
theorem km_X12_304 : Cond.methodLink RX12 304 yX12_hasCode ∈ lw_good := gmem (i := 1798) (by decide +kernel) rfl
theorem ki_X12_hasCode : Cond.instanceMethod yX12_hasCode ∈ lw_good := gmem (i := 1800) (by decide +kernel) rfl
theorem kd_X12_hasCode : Cond.code yX12_hasCode cX12_hasCode 2 (some .boolean) ∈ lw_good := gmem (i := 1801) (by decide +kernel) rfl
theorem km_X12_307 : Cond.methodLink RX12 307 yX12_codeOf ∈ lw_good := gmem (i := 1802) (by decide +kernel) rfl
theorem ki_X12_codeOf : Cond.instanceMethod yX12_codeOf ∈ lw_good := gmem (i := 1804) (by decide +kernel) rfl
theorem kd_X12_codeOf : Cond.code yX12_codeOf cX12_codeOf 2 (some .int) ∈ lw_good := gmem (i := 1805) (by decide +kernel) rfl
theorem km_X12_337 : Cond.methodLink RX12 337 yX12_logs ∈ lw_good := gmem (i := 1806) (by decide +kernel) rfl
theorem ki_X12_logs : Cond.instanceMethod yX12_logs ∈ lw_good := gmem (i := 1808) (by decide +kernel) rfl
theorem kd_X12_logs : Cond.code yX12_logs cX12_logs 3 none ∈ lw_good := gmem (i := 1809) (by decide +kernel) rfl
theorem km_X12_328 : Cond.methodLink RX12 328 yX12_goes ∈ lw_good := gmem (i := 1810) (by decide +kernel) rfl
theorem ki_X12_goes : Cond.instanceMethod yX12_goes ∈ lw_good := gmem (i := 1812) (by decide +kernel) rfl
theorem kd_X12_goes : Cond.code yX12_goes cX12_goes 7 (some .boolean) ∈ lw_good := gmem (i := 1813) (by decide +kernel) rfl
theorem km_X12_325 : Cond.methodLink RX12 325 yX12_actAt ∈ lw_good := gmem (i := 1814) (by decide +kernel) rfl
theorem kt_X12_actAt : Cond.static yX12_actAt ∈ lw_good := gmem (i := 1815) (by decide +kernel) rfl
theorem kd_X12_actAt : Cond.code yX12_actAt cX12_actAt 1 (some .int) ∈ lw_good := gmem (i := 1816) (by decide +kernel) rfl
theorem km_X12_331 : Cond.methodLink RX12 331 yX12_heldBy ∈ lw_good := gmem (i := 1817) (by decide +kernel) rfl
theorem ki_X12_heldBy : Cond.instanceMethod yX12_heldBy ∈ lw_good := gmem (i := 1819) (by decide +kernel) rfl
theorem kd_X12_heldBy : Cond.code yX12_heldBy cX12_heldBy 4 (some .int) ∈ lw_good := gmem (i := 1820) (by decide +kernel) rfl
theorem km_X12_340 : Cond.methodLink RX12 340 yX12_leastHand ∈ lw_good := gmem (i := 1821) (by decide +kernel) rfl
theorem ki_X12_leastHand : Cond.instanceMethod yX12_leastHand ∈ lw_good := gmem (i := 1823) (by decide +kernel) rfl
theorem kd_X12_leastHand : Cond.code yX12_leastHand cX12_leastHand 2 (some .int) ∈ lw_good := gmem (i := 1824) (by decide +kernel) rfl
theorem km_X12_343 : Cond.methodLink RX12 343 yX12_stuckNow ∈ lw_good := gmem (i := 1825) (by decide +kernel) rfl
theorem ki_X12_stuckNow : Cond.instanceMethod yX12_stuckNow ∈ lw_good := gmem (i := 1827) (by decide +kernel) rfl
theorem kd_X12_stuckNow : Cond.code yX12_stuckNow cX12_stuckNow 3 (some .int) ∈ lw_good := gmem (i := 1828) (by decide +kernel) rfl
theorem km_L_39 : Cond.methodLink RL 39 yX12_runs ∈ lw_good := gmem (i := 1829) (by decide +kernel) rfl
theorem ki_X12_runs : Cond.instanceMethod yX12_runs ∈ lw_good := gmem (i := 1830) (by decide +kernel) rfl
theorem ks_X12_runs : Cond.selects RX12 yX12_runs yX12_runs ∈ lw_good := gmem (i := 1831) (by decide +kernel) rfl
theorem kd_X12_runs : Cond.code yX12_runs cX12_runs 1 (some .int) ∈ lw_good := gmem (i := 1832) (by decide +kernel) rfl
theorem km_L_44 : Cond.methodLink RL 44 yX12_act ∈ lw_good := gmem (i := 1833) (by decide +kernel) rfl
theorem ki_X12_act : Cond.instanceMethod yX12_act ∈ lw_good := gmem (i := 1834) (by decide +kernel) rfl
theorem ks_X12_act : Cond.selects RX12 yX12_act yX12_act ∈ lw_good := gmem (i := 1835) (by decide +kernel) rfl
theorem kd_X12_act : Cond.code yX12_act cX12_act 3 (some .int) ∈ lw_good := gmem (i := 1836) (by decide +kernel) rfl
theorem km_X12_352 : Cond.methodLink RX12 352 yX12_isAct ∈ lw_good := gmem (i := 1837) (by decide +kernel) rfl
theorem ki_X12_isAct : Cond.instanceMethod yX12_isAct ∈ lw_good := gmem (i := 1839) (by decide +kernel) rfl
theorem kd_X12_isAct : Cond.code yX12_isAct cX12_isAct 2 (some .boolean) ∈ lw_good := gmem (i := 1840) (by decide +kernel) rfl
theorem kl_X12_355 : Cond.constantLong RX12 355 (6) ∈ lw_good := gmem (i := 1841) (by decide +kernel) rfl
theorem km_X12_357 : Cond.methodLink RX12 357 yX12_of ∈ lw_good := gmem (i := 1842) (by decide +kernel) rfl
theorem ki_X12_of : Cond.instanceMethod yX12_of ∈ lw_good := gmem (i := 1844) (by decide +kernel) rfl
theorem kd_X12_of : Cond.code yX12_of cX12_of 3 (some .int) ∈ lw_good := gmem (i := 1845) (by decide +kernel) rfl
theorem kk_X12_360 : Cond.constant RX12 360 (-2000000000) ∈ lw_good := gmem (i := 1846) (by decide +kernel) rfl
theorem km_L_48 : Cond.methodLink RL 48 yX12_cell ∈ lw_good := gmem (i := 1847) (by decide +kernel) rfl
theorem ki_X12_cell : Cond.instanceMethod yX12_cell ∈ lw_good := gmem (i := 1848) (by decide +kernel) rfl
theorem ks_X12_cell : Cond.selects RX12 yX12_cell yX12_cell ∈ lw_good := gmem (i := 1849) (by decide +kernel) rfl
theorem kd_X12_cell : Cond.code yX12_cell cX12_cell 2 (some .int) ∈ lw_good := gmem (i := 1850) (by decide +kernel) rfl
theorem kl_X12_361 : Cond.constantLong RX12 361 (7) ∈ lw_good := gmem (i := 1851) (by decide +kernel) rfl
theorem km_L_52 : Cond.methodLink RL 52 yX12_stuck ∈ lw_good := gmem (i := 1852) (by decide +kernel) rfl
theorem ki_X12_stuck : Cond.instanceMethod yX12_stuck ∈ lw_good := gmem (i := 1853) (by decide +kernel) rfl
theorem ks_X12_stuck : Cond.selects RX12 yX12_stuck yX12_stuck ∈ lw_good := gmem (i := 1854) (by decide +kernel) rfl
theorem kd_X12_stuck : Cond.code yX12_stuck cX12_stuck 1 (some .int) ∈ lw_good := gmem (i := 1855) (by decide +kernel) rfl
theorem km_L_57 : Cond.methodLink RL 57 yX12_law ∈ lw_good := gmem (i := 1856) (by decide +kernel) rfl
theorem ki_X12_law : Cond.instanceMethod yX12_law ∈ lw_good := gmem (i := 1857) (by decide +kernel) rfl
theorem ks_X12_law : Cond.selects RX12 yX12_law yX12_law ∈ lw_good := gmem (i := 1858) (by decide +kernel) rfl
theorem kd_X12_law : Cond.code yX12_law cX12_law 4 (some .int) ∈ lw_good := gmem (i := 1859) (by decide +kernel) rfl
theorem kl_X12_363 : Cond.constantLong RX12 363 (4) ∈ lw_good := gmem (i := 1860) (by decide +kernel) rfl
theorem km_L_61 : Cond.methodLink RL 61 yX12_before ∈ lw_good := gmem (i := 1861) (by decide +kernel) rfl
theorem ki_X12_before : Cond.instanceMethod yX12_before ∈ lw_good := gmem (i := 1862) (by decide +kernel) rfl
theorem ks_X12_before : Cond.selects RX12 yX12_before yX12_before ∈ lw_good := gmem (i := 1863) (by decide +kernel) rfl
theorem kd_X12_before : Cond.code yX12_before cX12_before 3 (some .int) ∈ lw_good := gmem (i := 1864) (by decide +kernel) rfl
theorem km_X12_396 : Cond.methodLink RX12 396 yX12_clocks ∈ lw_good := gmem (i := 1865) (by decide +kernel) rfl
theorem ki_X12_clocks : Cond.instanceMethod yX12_clocks ∈ lw_good := gmem (i := 1867) (by decide +kernel) rfl
theorem kd_X12_clocks : Cond.code yX12_clocks cX12_clocks 3 none ∈ lw_good := gmem (i := 1868) (by decide +kernel) rfl
theorem km_X12_390 : Cond.methodLink RX12 390 yX12_findAhead ∈ lw_good := gmem (i := 1869) (by decide +kernel) rfl
theorem ki_X12_findAhead : Cond.instanceMethod yX12_findAhead ∈ lw_good := gmem (i := 1871) (by decide +kernel) rfl
theorem kd_X12_findAhead : Cond.code yX12_findAhead cX12_findAhead 2 none ∈ lw_good := gmem (i := 1872) (by decide +kernel) rfl
theorem km_X12_368 : Cond.methodLink RX12 368 yX12_latest ∈ lw_good := gmem (i := 1873) (by decide +kernel) rfl
theorem ki_X12_latest : Cond.instanceMethod yX12_latest ∈ lw_good := gmem (i := 1875) (by decide +kernel) rfl
theorem kd_X12_latest : Cond.code yX12_latest cX12_latest 6 (some .int) ∈ lw_good := gmem (i := 1876) (by decide +kernel) rfl
theorem km_X12_365 : Cond.methodLink RX12 365 yX12_isLaw ∈ lw_good := gmem (i := 1877) (by decide +kernel) rfl
theorem ki_X12_isLaw : Cond.instanceMethod yX12_isLaw ∈ lw_good := gmem (i := 1879) (by decide +kernel) rfl
theorem kd_X12_isLaw : Cond.code yX12_isLaw cX12_isLaw 2 (some .boolean) ∈ lw_good := gmem (i := 1880) (by decide +kernel) rfl
theorem km_X12_378 : Cond.methodLink RX12 378 yX12_lawOf ∈ lw_good := gmem (i := 1881) (by decide +kernel) rfl
theorem ki_X12_lawOf : Cond.instanceMethod yX12_lawOf ∈ lw_good := gmem (i := 1883) (by decide +kernel) rfl
theorem kd_X12_lawOf : Cond.code yX12_lawOf cX12_lawOf 3 (some .int) ∈ lw_good := gmem (i := 1884) (by decide +kernel) rfl
theorem km_X12_372 : Cond.methodLink RX12 372 yX12_sendOf ∈ lw_good := gmem (i := 1885) (by decide +kernel) rfl
theorem ki_X12_sendOf : Cond.instanceMethod yX12_sendOf ∈ lw_good := gmem (i := 1887) (by decide +kernel) rfl
theorem kd_X12_sendOf : Cond.code yX12_sendOf cX12_sendOf 4 (some .int) ∈ lw_good := gmem (i := 1888) (by decide +kernel) rfl
theorem km_X12_375 : Cond.methodLink RX12 375 yX12_isTouch ∈ lw_good := gmem (i := 1889) (by decide +kernel) rfl
theorem ki_X12_isTouch : Cond.instanceMethod yX12_isTouch ∈ lw_good := gmem (i := 1891) (by decide +kernel) rfl
theorem kd_X12_isTouch : Cond.code yX12_isTouch cX12_isTouch 2 (some .boolean) ∈ lw_good := gmem (i := 1892) (by decide +kernel) rfl
theorem km_X12_384 : Cond.methodLink RX12 384 yX12_latestTouch ∈ lw_good := gmem (i := 1893) (by decide +kernel) rfl
theorem ki_X12_latestTouch : Cond.instanceMethod yX12_latestTouch ∈ lw_good := gmem (i := 1895) (by decide +kernel) rfl
theorem kd_X12_latestTouch : Cond.code yX12_latestTouch cX12_latestTouch 3 (some .int) ∈ lw_good := gmem (i := 1896) (by decide +kernel) rfl
theorem km_X12_393 : Cond.methodLink RX12 393 yX12_merges ∈ lw_good := gmem (i := 1897) (by decide +kernel) rfl
theorem ki_X12_merges : Cond.instanceMethod yX12_merges ∈ lw_good := gmem (i := 1899) (by decide +kernel) rfl
theorem kd_X12_merges : Cond.code yX12_merges cX12_merges 4 none ∈ lw_good := gmem (i := 1900) (by decide +kernel) rfl
theorem km_X12_387 : Cond.methodLink RX12 387 yJ9_max_7cf53 ∈ lw_good := gmem (i := 1901) (by decide +kernel) rfl
theorem km_X12_399 : Cond.methodLink RX12 399 yX12_isBefore ∈ lw_good := gmem (i := 1902) (by decide +kernel) rfl
theorem ki_X12_isBefore : Cond.instanceMethod yX12_isBefore ∈ lw_good := gmem (i := 1904) (by decide +kernel) rfl
theorem kd_X12_isBefore : Cond.code yX12_isBefore cX12_isBefore 3 (some .boolean) ∈ lw_good := gmem (i := 1905) (by decide +kernel) rfl
theorem km_L_66 : Cond.methodLink RL 66 yX12_way ∈ lw_good := gmem (i := 1906) (by decide +kernel) rfl
theorem ki_X12_way : Cond.instanceMethod yX12_way ∈ lw_good := gmem (i := 1907) (by decide +kernel) rfl
theorem ks_X12_way : Cond.selects RX12 yX12_way yX12_way ∈ lw_good := gmem (i := 1908) (by decide +kernel) rfl
theorem kd_X12_way : Cond.code yX12_way cX12_way 11 (some .int) ∈ lw_good := gmem (i := 1909) (by decide +kernel) rfl
theorem km_L_70 : Cond.methodLink RL 70 yX12_meets ∈ lw_good := gmem (i := 1910) (by decide +kernel) rfl
theorem ki_X12_meets : Cond.instanceMethod yX12_meets ∈ lw_good := gmem (i := 1911) (by decide +kernel) rfl
theorem ks_X12_meets : Cond.selects RX12 yX12_meets yX12_meets ∈ lw_good := gmem (i := 1912) (by decide +kernel) rfl
theorem kd_X12_meets : Cond.code yX12_meets cX12_meets 1 (some .int) ∈ lw_good := gmem (i := 1913) (by decide +kernel) rfl
theorem km_X12_409 : Cond.methodLink RX12 409 yX12_meetings ∈ lw_good := gmem (i := 1914) (by decide +kernel) rfl
theorem ki_X12_meetings : Cond.instanceMethod yX12_meetings ∈ lw_good := gmem (i := 1916) (by decide +kernel) rfl
theorem kd_X12_meetings : Cond.code yX12_meetings cX12_meetings 4 (some .int) ∈ lw_good := gmem (i := 1917) (by decide +kernel) rfl
theorem km_X12_406 : Cond.methodLink RX12 406 yX12_meet0 ∈ lw_good := gmem (i := 1918) (by decide +kernel) rfl
theorem ki_X12_meet0 : Cond.instanceMethod yX12_meet0 ∈ lw_good := gmem (i := 1920) (by decide +kernel) rfl
theorem kd_X12_meet0 : Cond.code yX12_meet0 cX12_meet0 3 (some .boolean) ∈ lw_good := gmem (i := 1921) (by decide +kernel) rfl
theorem km_X12_403 : Cond.methodLink RX12 403 yX12_clash ∈ lw_good := gmem (i := 1922) (by decide +kernel) rfl
theorem ki_X12_clash : Cond.instanceMethod yX12_clash ∈ lw_good := gmem (i := 1924) (by decide +kernel) rfl
theorem kd_X12_clash : Cond.code yX12_clash cX12_clash 4 (some .boolean) ∈ lw_good := gmem (i := 1925) (by decide +kernel) rfl
theorem km_L_74 : Cond.methodLink RL 74 yX12_meet ∈ lw_good := gmem (i := 1926) (by decide +kernel) rfl
theorem ki_X12_meet : Cond.instanceMethod yX12_meet ∈ lw_good := gmem (i := 1927) (by decide +kernel) rfl
theorem ks_X12_meet : Cond.selects RX12 yX12_meet yX12_meet ∈ lw_good := gmem (i := 1928) (by decide +kernel) rfl
theorem kd_X12_meet : Cond.code yX12_meet cX12_meet 6 (some .int) ∈ lw_good := gmem (i := 1929) (by decide +kernel) rfl
theorem km_L_78 : Cond.methodLink RL 78 yX12_first ∈ lw_good := gmem (i := 1930) (by decide +kernel) rfl
theorem ki_X12_first : Cond.instanceMethod yX12_first ∈ lw_good := gmem (i := 1931) (by decide +kernel) rfl
theorem ks_X12_first : Cond.selects RX12 yX12_first yX12_first ∈ lw_good := gmem (i := 1932) (by decide +kernel) rfl
theorem kd_X12_first : Cond.code yX12_first cX12_first 5 (some .int) ∈ lw_good := gmem (i := 1933) (by decide +kernel) rfl
theorem km_L_82 : Cond.methodLink RL 82 yX12_small ∈ lw_good := gmem (i := 1934) (by decide +kernel) rfl
theorem ki_X12_small : Cond.instanceMethod yX12_small ∈ lw_good := gmem (i := 1935) (by decide +kernel) rfl
theorem ks_X12_small : Cond.selects RX12 yX12_small yX12_small ∈ lw_good := gmem (i := 1936) (by decide +kernel) rfl
theorem kd_X12_small : Cond.code yX12_small cX12_small 6 (some .int) ∈ lw_good := gmem (i := 1937) (by decide +kernel) rfl
theorem kl_X12_412 : Cond.constantLong RX12 412 (40) ∈ lw_good := gmem (i := 1938) (by decide +kernel) rfl
theorem km_L_86 : Cond.methodLink RL 86 yX12_could ∈ lw_good := gmem (i := 1939) (by decide +kernel) rfl
theorem ki_X12_could : Cond.instanceMethod yX12_could ∈ lw_good := gmem (i := 1940) (by decide +kernel) rfl
theorem ks_X12_could : Cond.selects RX12 yX12_could yX12_could ∈ lw_good := gmem (i := 1941) (by decide +kernel) rfl
theorem kd_X12_could : Cond.code yX12_could cX12_could 6 (some .int) ∈ lw_good := gmem (i := 1942) (by decide +kernel) rfl
theorem km_X12_444 : Cond.methodLink RX12 444 yX12_search ∈ lw_good := gmem (i := 1943) (by decide +kernel) rfl
theorem ki_X12_search : Cond.instanceMethod yX12_search ∈ lw_good := gmem (i := 1945) (by decide +kernel) rfl
theorem kd_X12_search : Cond.code yX12_search cX12_search 7 (some .int) ∈ lw_good := gmem (i := 1946) (by decide +kernel) rfl
theorem km_X12_435 : Cond.methodLink RX12 435 yX12_sorts ∈ lw_good := gmem (i := 1947) (by decide +kernel) rfl
theorem ki_X12_sorts : Cond.instanceMethod yX12_sorts ∈ lw_good := gmem (i := 1949) (by decide +kernel) rfl
theorem kd_X12_sorts : Cond.code yX12_sorts cX12_sorts 3 none ∈ lw_good := gmem (i := 1950) (by decide +kernel) rfl
theorem km_X12_438 : Cond.methodLink RX12 438 yX12_laysOrder ∈ lw_good := gmem (i := 1951) (by decide +kernel) rfl
theorem ki_X12_laysOrder : Cond.instanceMethod yX12_laysOrder ∈ lw_good := gmem (i := 1953) (by decide +kernel) rfl
theorem kd_X12_laysOrder : Cond.code yX12_laysOrder cX12_laysOrder 6 (some .int) ∈ lw_good := gmem (i := 1954) (by decide +kernel) rfl
theorem km_X12_429 : Cond.methodLink RX12 429 yX12_isLaid ∈ lw_good := gmem (i := 1955) (by decide +kernel) rfl
theorem ki_X12_isLaid : Cond.instanceMethod yX12_isLaid ∈ lw_good := gmem (i := 1957) (by decide +kernel) rfl
theorem kd_X12_isLaid : Cond.code yX12_isLaid cX12_isLaid 4 (some .boolean) ∈ lw_good := gmem (i := 1958) (by decide +kernel) rfl
theorem km_X12_432 : Cond.methodLink RX12 432 yX12_sideBySide ∈ lw_good := gmem (i := 1959) (by decide +kernel) rfl
theorem ki_X12_sideBySide : Cond.instanceMethod yX12_sideBySide ∈ lw_good := gmem (i := 1961) (by decide +kernel) rfl
theorem kd_X12_sideBySide : Cond.code yX12_sideBySide cX12_sideBySide 3 (some .boolean) ∈ lw_good := gmem (i := 1962) (by decide +kernel) rfl
theorem km_X12_417 : Cond.methodLink RX12 417 yX12_isStarted ∈ lw_good := gmem (i := 1963) (by decide +kernel) rfl
theorem ki_X12_isStarted : Cond.instanceMethod yX12_isStarted ∈ lw_good := gmem (i := 1965) (by decide +kernel) rfl
theorem kd_X12_isStarted : Cond.code yX12_isStarted cX12_isStarted 3 (some .boolean) ∈ lw_good := gmem (i := 1966) (by decide +kernel) rfl
theorem km_X12_414 : Cond.methodLink RX12 414 yX12_isDone ∈ lw_good := gmem (i := 1967) (by decide +kernel) rfl
theorem ki_X12_isDone : Cond.instanceMethod yX12_isDone ∈ lw_good := gmem (i := 1969) (by decide +kernel) rfl
theorem kd_X12_isDone : Cond.code yX12_isDone cX12_isDone 2 (some .boolean) ∈ lw_good := gmem (i := 1970) (by decide +kernel) rfl
theorem km_X12_441 : Cond.methodLink RX12 441 yX12_couldGo ∈ lw_good := gmem (i := 1971) (by decide +kernel) rfl
theorem ki_X12_couldGo : Cond.instanceMethod yX12_couldGo ∈ lw_good := gmem (i := 1973) (by decide +kernel) rfl
theorem kd_X12_couldGo : Cond.code yX12_couldGo cX12_couldGo 5 (some .boolean) ∈ lw_good := gmem (i := 1974) (by decide +kernel) rfl
theorem km_X12_420 : Cond.methodLink RX12 420 yX12_sawOf ∈ lw_good := gmem (i := 1975) (by decide +kernel) rfl
theorem ki_X12_sawOf : Cond.instanceMethod yX12_sawOf ∈ lw_good := gmem (i := 1977) (by decide +kernel) rfl
theorem kd_X12_sawOf : Cond.code yX12_sawOf cX12_sawOf 3 (some .int) ∈ lw_good := gmem (i := 1978) (by decide +kernel) rfl
theorem km_X12_423 : Cond.methodLink RX12 423 yX12_isFree ∈ lw_good := gmem (i := 1979) (by decide +kernel) rfl
theorem ki_X12_isFree : Cond.instanceMethod yX12_isFree ∈ lw_good := gmem (i := 1981) (by decide +kernel) rfl
theorem kd_X12_isFree : Cond.code yX12_isFree cX12_isFree 3 (some .boolean) ∈ lw_good := gmem (i := 1982) (by decide +kernel) rfl
theorem km_L_90 : Cond.methodLink RL 90 yX12_shown ∈ lw_good := gmem (i := 1983) (by decide +kernel) rfl
theorem ki_X12_shown : Cond.instanceMethod yX12_shown ∈ lw_good := gmem (i := 1984) (by decide +kernel) rfl
theorem ks_X12_shown : Cond.selects RX12 yX12_shown yX12_shown ∈ lw_good := gmem (i := 1985) (by decide +kernel) rfl
theorem kd_X12_shown : Cond.code yX12_shown cX12_shown 2 (some .int) ∈ lw_good := gmem (i := 1986) (by decide +kernel) rfl
theorem km_L_94 : Cond.methodLink RL 94 yX12_harm ∈ lw_good := gmem (i := 1987) (by decide +kernel) rfl
theorem ki_X12_harm : Cond.instanceMethod yX12_harm ∈ lw_good := gmem (i := 1988) (by decide +kernel) rfl
theorem ks_X12_harm : Cond.selects RX12 yX12_harm yX12_harm ∈ lw_good := gmem (i := 1989) (by decide +kernel) rfl
theorem kd_X12_harm : Cond.code yX12_harm cX12_harm 4 (some .int) ∈ lw_good := gmem (i := 1990) (by decide +kernel) rfl
theorem km_X12_462 : Cond.methodLink RX12 462 yX12_plays ∈ lw_good := gmem (i := 1991) (by decide +kernel) rfl
theorem ki_X12_plays : Cond.instanceMethod yX12_plays ∈ lw_good := gmem (i := 1993) (by decide +kernel) rfl
theorem kd_X12_plays : Cond.code yX12_plays cX12_plays 4 none ∈ lw_good := gmem (i := 1994) (by decide +kernel) rfl
theorem km_X12_459 : Cond.methodLink RX12 459 yX12_goesOn ∈ lw_good := gmem (i := 1995) (by decide +kernel) rfl
theorem ki_X12_goesOn : Cond.instanceMethod yX12_goesOn ∈ lw_good := gmem (i := 1997) (by decide +kernel) rfl
theorem kd_X12_goesOn : Cond.code yX12_goesOn cX12_goesOn 3 none ∈ lw_good := gmem (i := 1998) (by decide +kernel) rfl
theorem km_L_98 : Cond.methodLink RL 98 yX12_always ∈ lw_good := gmem (i := 1999) (by decide +kernel) rfl
theorem ki_X12_always : Cond.instanceMethod yX12_always ∈ lw_good := gmem (i := 2000) (by decide +kernel) rfl
theorem ks_X12_always : Cond.selects RX12 yX12_always yX12_always ∈ lw_good := gmem (i := 2001) (by decide +kernel) rfl
theorem kd_X12_always : Cond.code yX12_always cX12_always 4 (some .int) ∈ lw_good := gmem (i := 2002) (by decide +kernel) rfl
theorem km_L_102 : Cond.methodLink RL 102 yX12_habit ∈ lw_good := gmem (i := 2003) (by decide +kernel) rfl
theorem ki_X12_habit : Cond.instanceMethod yX12_habit ∈ lw_good := gmem (i := 2004) (by decide +kernel) rfl
theorem ks_X12_habit : Cond.selects RX12 yX12_habit yX12_habit ∈ lw_good := gmem (i := 2005) (by decide +kernel) rfl
theorem kd_X12_habit : Cond.code yX12_habit cX12_habit 5 (some .int) ∈ lw_good := gmem (i := 2006) (by decide +kernel) rfl
theorem km_L_106 : Cond.methodLink RL 106 yX12_ring ∈ lw_good := gmem (i := 2007) (by decide +kernel) rfl
theorem ki_X12_ring : Cond.instanceMethod yX12_ring ∈ lw_good := gmem (i := 2008) (by decide +kernel) rfl
theorem ks_X12_ring : Cond.selects RX12 yX12_ring yX12_ring ∈ lw_good := gmem (i := 2009) (by decide +kernel) rfl
theorem kd_X12_ring : Cond.code yX12_ring cX12_ring 4 (some .int) ∈ lw_good := gmem (i := 2010) (by decide +kernel) rfl
theorem km_L_110 : Cond.methodLink RL 110 yX12_ends ∈ lw_good := gmem (i := 2011) (by decide +kernel) rfl
theorem ki_X12_ends : Cond.instanceMethod yX12_ends ∈ lw_good := gmem (i := 2012) (by decide +kernel) rfl
theorem ks_X12_ends : Cond.selects RX12 yX12_ends yX12_ends ∈ lw_good := gmem (i := 2013) (by decide +kernel) rfl
theorem kd_X12_ends : Cond.code yX12_ends cX12_ends 5 (some .int) ∈ lw_good := gmem (i := 2014) (by decide +kernel) rfl
theorem km_X12_474 : Cond.methodLink RX12 474 yX12_allRuns ∈ lw_good := gmem (i := 2015) (by decide +kernel) rfl
theorem ki_X12_allRuns : Cond.instanceMethod yX12_allRuns ∈ lw_good := gmem (i := 2017) (by decide +kernel) rfl
theorem kd_X12_allRuns : Cond.code yX12_allRuns cX12_allRuns 4 (some .boolean) ∈ lw_good := gmem (i := 2018) (by decide +kernel) rfl
theorem km_X12_468 : Cond.methodLink RX12 468 yX12_laysRun ∈ lw_good := gmem (i := 2019) (by decide +kernel) rfl
theorem ki_X12_laysRun : Cond.instanceMethod yX12_laysRun ∈ lw_good := gmem (i := 2021) (by decide +kernel) rfl
theorem kd_X12_laysRun : Cond.code yX12_laysRun cX12_laysRun 4 (some .boolean) ∈ lw_good := gmem (i := 2022) (by decide +kernel) rfl
theorem km_X12_465 : Cond.methodLink RX12 465 yX12_isRunLaid ∈ lw_good := gmem (i := 2023) (by decide +kernel) rfl
theorem ki_X12_isRunLaid : Cond.instanceMethod yX12_isRunLaid ∈ lw_good := gmem (i := 2025) (by decide +kernel) rfl
theorem kd_X12_isRunLaid : Cond.code yX12_isRunLaid cX12_isRunLaid 4 (some .boolean) ∈ lw_good := gmem (i := 2026) (by decide +kernel) rfl
theorem km_X12_471 : Cond.methodLink RX12 471 yX12_brings ∈ lw_good := gmem (i := 2027) (by decide +kernel) rfl
theorem ki_X12_brings : Cond.instanceMethod yX12_brings ∈ lw_good := gmem (i := 2029) (by decide +kernel) rfl
theorem kd_X12_brings : Cond.code yX12_brings cX12_brings 3 none ∈ lw_good := gmem (i := 2030) (by decide +kernel) rfl
theorem km_X12_477 : Cond.methodLink RX12 477 yX12_sameEnd ∈ lw_good := gmem (i := 2031) (by decide +kernel) rfl
theorem ki_X12_sameEnd : Cond.instanceMethod yX12_sameEnd ∈ lw_good := gmem (i := 2033) (by decide +kernel) rfl
theorem kd_X12_sameEnd : Cond.code yX12_sameEnd cX12_sameEnd 5 (some .boolean) ∈ lw_good := gmem (i := 2034) (by decide +kernel) rfl
theorem km_L_114 : Cond.methodLink RL 114 yX12_waits ∈ lw_good := gmem (i := 2035) (by decide +kernel) rfl
theorem ki_X12_waits : Cond.instanceMethod yX12_waits ∈ lw_good := gmem (i := 2036) (by decide +kernel) rfl
theorem ks_X12_waits : Cond.selects RX12 yX12_waits yX12_waits ∈ lw_good := gmem (i := 2037) (by decide +kernel) rfl
theorem kd_X12_waits : Cond.code yX12_waits cX12_waits 4 (some .int) ∈ lw_good := gmem (i := 2038) (by decide +kernel) rfl
theorem km_L_118 : Cond.methodLink RL 118 yX12_led ∈ lw_good := gmem (i := 2039) (by decide +kernel) rfl
theorem ki_X12_led : Cond.instanceMethod yX12_led ∈ lw_good := gmem (i := 2040) (by decide +kernel) rfl
theorem ks_X12_led : Cond.selects RX12 yX12_led yX12_led ∈ lw_good := gmem (i := 2041) (by decide +kernel) rfl
theorem kd_X12_led : Cond.code yX12_led cX12_led 2 (some .int) ∈ lw_good := gmem (i := 2042) (by decide +kernel) rfl
theorem km_L_122 : Cond.methodLink RL 122 yX12_may ∈ lw_good := gmem (i := 2043) (by decide +kernel) rfl
theorem ki_X12_may : Cond.instanceMethod yX12_may ∈ lw_good := gmem (i := 2044) (by decide +kernel) rfl
theorem ks_X12_may : Cond.selects RX12 yX12_may yX12_may ∈ lw_good := gmem (i := 2045) (by decide +kernel) rfl
theorem kd_X12_may : Cond.code yX12_may cX12_may 2 (some .int) ∈ lw_good := gmem (i := 2046) (by decide +kernel) rfl
theorem kl_X12_483 : Cond.constantLong RX12 483 (127) ∈ lw_good := gmem (i := 2047) (by decide +kernel) rfl
theorem km_X12_485 : Cond.methodLink RX12 485 yX12_meetingsBy ∈ lw_good := gmem (i := 2048) (by decide +kernel) rfl
theorem ki_X12_meetingsBy : Cond.instanceMethod yX12_meetingsBy ∈ lw_good := gmem (i := 2050) (by decide +kernel) rfl
theorem kd_X12_meetingsBy : Cond.code yX12_meetingsBy cX12_meetingsBy 3 (some .int) ∈ lw_good := gmem (i := 2051) (by decide +kernel) rfl
theorem km_L_126 : Cond.methodLink RL 126 yX12_least ∈ lw_good := gmem (i := 2052) (by decide +kernel) rfl
theorem ki_X12_least : Cond.instanceMethod yX12_least ∈ lw_good := gmem (i := 2053) (by decide +kernel) rfl
theorem ks_X12_least : Cond.selects RX12 yX12_least yX12_least ∈ lw_good := gmem (i := 2054) (by decide +kernel) rfl
theorem kd_X12_least : Cond.code yX12_least cX12_least 4 (some .int) ∈ lw_good := gmem (i := 2055) (by decide +kernel) rfl
theorem km_X12_488 : Cond.methodLink RX12 488 yX12_ones ∈ lw_good := gmem (i := 2056) (by decide +kernel) rfl
theorem kt_X12_ones : Cond.static yX12_ones ∈ lw_good := gmem (i := 2057) (by decide +kernel) rfl
theorem kd_X12_ones : Cond.code yX12_ones cX12_ones 3 (some .int) ∈ lw_good := gmem (i := 2058) (by decide +kernel) rfl
theorem km_L_130 : Cond.methodLink RL 130 yX12_mend ∈ lw_good := gmem (i := 2059) (by decide +kernel) rfl
theorem ki_X12_mend : Cond.instanceMethod yX12_mend ∈ lw_good := gmem (i := 2060) (by decide +kernel) rfl
theorem ks_X12_mend : Cond.selects RX12 yX12_mend yX12_mend ∈ lw_good := gmem (i := 2061) (by decide +kernel) rfl
theorem kd_X12_mend : Cond.code yX12_mend cX12_mend 3 (some .int) ∈ lw_good := gmem (i := 2062) (by decide +kernel) rfl
theorem km_L_134 : Cond.methodLink RL 134 yX12_gates ∈ lw_good := gmem (i := 2063) (by decide +kernel) rfl
theorem ki_X12_gates : Cond.instanceMethod yX12_gates ∈ lw_good := gmem (i := 2064) (by decide +kernel) rfl
theorem ks_X12_gates : Cond.selects RX12 yX12_gates yX12_gates ∈ lw_good := gmem (i := 2065) (by decide +kernel) rfl
theorem kd_X12_gates : Cond.code yX12_gates cX12_gates 3 (some .int) ∈ lw_good := gmem (i := 2066) (by decide +kernel) rfl
theorem km_L_138 : Cond.methodLink RL 138 yX12_blink ∈ lw_good := gmem (i := 2067) (by decide +kernel) rfl
theorem ki_X12_blink : Cond.instanceMethod yX12_blink ∈ lw_good := gmem (i := 2068) (by decide +kernel) rfl
theorem ks_X12_blink : Cond.selects RX12 yX12_blink yX12_blink ∈ lw_good := gmem (i := 2069) (by decide +kernel) rfl
theorem kd_X12_blink : Cond.code yX12_blink cX12_blink 8 (some .int) ∈ lw_good := gmem (i := 2070) (by decide +kernel) rfl
theorem km_X12_494 : Cond.methodLink RX12 494 yX12_gateAt ∈ lw_good := gmem (i := 2071) (by decide +kernel) rfl
theorem ki_X12_gateAt : Cond.instanceMethod yX12_gateAt ∈ lw_good := gmem (i := 2073) (by decide +kernel) rfl
theorem kd_X12_gateAt : Cond.code yX12_gateAt cX12_gateAt 4 (some .int) ∈ lw_good := gmem (i := 2074) (by decide +kernel) rfl
theorem km_X12_497 : Cond.methodLink RX12 497 yX12_nodes ∈ lw_good := gmem (i := 2075) (by decide +kernel) rfl
theorem ki_X12_nodes : Cond.instanceMethod yX12_nodes ∈ lw_good := gmem (i := 2077) (by decide +kernel) rfl
theorem kd_X12_nodes : Cond.code yX12_nodes cX12_nodes 3 none ∈ lw_good := gmem (i := 2078) (by decide +kernel) rfl
theorem km_X12_500 : Cond.methodLink RX12 500 yX12_leads ∈ lw_good := gmem (i := 2079) (by decide +kernel) rfl
theorem ki_X12_leads : Cond.instanceMethod yX12_leads ∈ lw_good := gmem (i := 2081) (by decide +kernel) rfl
theorem kd_X12_leads : Cond.code yX12_leads cX12_leads 3 (some .boolean) ∈ lw_good := gmem (i := 2082) (by decide +kernel) rfl
theorem km_X12_491 : Cond.methodLink RX12 491 yX12_isBolt ∈ lw_good := gmem (i := 2083) (by decide +kernel) rfl
theorem ki_X12_isBolt : Cond.instanceMethod yX12_isBolt ∈ lw_good := gmem (i := 2085) (by decide +kernel) rfl
theorem kd_X12_isBolt : Cond.code yX12_isBolt cX12_isBolt 2 (some .boolean) ∈ lw_good := gmem (i := 2086) (by decide +kernel) rfl
theorem km_L_142 : Cond.methodLink RL 142 yX12_join ∈ lw_good := gmem (i := 2087) (by decide +kernel) rfl
theorem ki_X12_join : Cond.instanceMethod yX12_join ∈ lw_good := gmem (i := 2088) (by decide +kernel) rfl
theorem ks_X12_join : Cond.selects RX12 yX12_join yX12_join ∈ lw_good := gmem (i := 2089) (by decide +kernel) rfl
theorem kd_X12_join : Cond.code yX12_join cX12_join 4 (some .int) ∈ lw_good := gmem (i := 2090) (by decide +kernel) rfl
theorem km_X12_506 : Cond.methodLink RX12 506 yX12_books ∈ lw_good := gmem (i := 2091) (by decide +kernel) rfl
theorem ki_X12_books : Cond.instanceMethod yX12_books ∈ lw_good := gmem (i := 2093) (by decide +kernel) rfl
theorem kd_X12_books : Cond.code yX12_books cX12_books 8 (some .int) ∈ lw_good := gmem (i := 2094) (by decide +kernel) rfl
theorem km_X12_503 : Cond.methodLink RX12 503 yX12_pairFor ∈ lw_good := gmem (i := 2095) (by decide +kernel) rfl
theorem ki_X12_pairFor : Cond.instanceMethod yX12_pairFor ∈ lw_good := gmem (i := 2097) (by decide +kernel) rfl
theorem kd_X12_pairFor : Cond.code yX12_pairFor cX12_pairFor 6 (some .int) ∈ lw_good := gmem (i := 2098) (by decide +kernel) rfl
theorem km_L_146 : Cond.methodLink RL 146 yX12_joined ∈ lw_good := gmem (i := 2099) (by decide +kernel) rfl
theorem ki_X12_joined : Cond.instanceMethod yX12_joined ∈ lw_good := gmem (i := 2100) (by decide +kernel) rfl
theorem ks_X12_joined : Cond.selects RX12 yX12_joined yX12_joined ∈ lw_good := gmem (i := 2101) (by decide +kernel) rfl
theorem kd_X12_joined : Cond.code yX12_joined cX12_joined 3 (some .int) ∈ lw_good := gmem (i := 2102) (by decide +kernel) rfl
theorem km_X12_510 : Cond.methodLink RX12 510 yX12_pairAt ∈ lw_good := gmem (i := 2103) (by decide +kernel) rfl
theorem kt_X12_pairAt : Cond.static yX12_pairAt ∈ lw_good := gmem (i := 2104) (by decide +kernel) rfl
theorem kd_X12_pairAt : Cond.code yX12_pairAt cX12_pairAt 1 (some .int) ∈ lw_good := gmem (i := 2105) (by decide +kernel) rfl
theorem km_L_150 : Cond.methodLink RL 150 yX12_status ∈ lw_good := gmem (i := 2106) (by decide +kernel) rfl
theorem ki_X12_status : Cond.instanceMethod yX12_status ∈ lw_good := gmem (i := 2107) (by decide +kernel) rfl
theorem ks_X12_status : Cond.selects RX12 yX12_status yX12_status ∈ lw_good := gmem (i := 2108) (by decide +kernel) rfl
theorem kd_X12_status : Cond.code yX12_status cX12_status 4 (some .int) ∈ lw_good := gmem (i := 2109) (by decide +kernel) rfl
theorem km_L_158 : Cond.methodLink RL 158 yX12_back ∈ lw_good := gmem (i := 2110) (by decide +kernel) rfl
theorem ki_X12_back : Cond.instanceMethod yX12_back ∈ lw_good := gmem (i := 2111) (by decide +kernel) rfl
theorem ks_X12_back : Cond.selects RX12 yX12_back yX12_back ∈ lw_good := gmem (i := 2112) (by decide +kernel) rfl
theorem kd_X12_back : Cond.code yX12_back cX12_back 3 (some .int) ∈ lw_good := gmem (i := 2113) (by decide +kernel) rfl
theorem km_L_162 : Cond.methodLink RL 162 yX12_row ∈ lw_good := gmem (i := 2114) (by decide +kernel) rfl
theorem ki_X12_row : Cond.instanceMethod yX12_row ∈ lw_good := gmem (i := 2115) (by decide +kernel) rfl
theorem ks_X12_row : Cond.selects RX12 yX12_row yX12_row ∈ lw_good := gmem (i := 2116) (by decide +kernel) rfl
theorem kd_X12_row : Cond.code yX12_row cX12_row 5 (some .int) ∈ lw_good := gmem (i := 2117) (by decide +kernel) rfl
theorem km_L_169 : Cond.methodLink RL 169 yX12_write ∈ lw_good := gmem (i := 2118) (by decide +kernel) rfl
theorem ki_X12_write : Cond.instanceMethod yX12_write ∈ lw_good := gmem (i := 2119) (by decide +kernel) rfl
theorem ks_X12_write : Cond.selects RX12 yX12_write yX12_write ∈ lw_good := gmem (i := 2120) (by decide +kernel) rfl
theorem kd_X12_write : Cond.code yX12_write cX12_write 5 (some .int) ∈ lw_good := gmem (i := 2121) (by decide +kernel) rfl
theorem km_X12_515 : Cond.methodLink RX12 515 yX12_cut ∈ lw_good := gmem (i := 2122) (by decide +kernel) rfl
theorem kt_X12_cut : Cond.static yX12_cut ∈ lw_good := gmem (i := 2123) (by decide +kernel) rfl
theorem kd_X12_cut : Cond.code yX12_cut cX12_cut 4 (some .long) ∈ lw_good := gmem (i := 2124) (by decide +kernel) rfl
theorem km_L_173 : Cond.methodLink RL 173 yX12_paste ∈ lw_good := gmem (i := 2125) (by decide +kernel) rfl
theorem ki_X12_paste : Cond.instanceMethod yX12_paste ∈ lw_good := gmem (i := 2126) (by decide +kernel) rfl
theorem ks_X12_paste : Cond.selects RX12 yX12_paste yX12_paste ∈ lw_good := gmem (i := 2127) (by decide +kernel) rfl
theorem kd_X12_paste : Cond.code yX12_paste cX12_paste 7 (some .int) ∈ lw_good := gmem (i := 2128) (by decide +kernel) rfl
theorem kl_L_163 : Cond.constantLong RL 163 (4294967295) ∈ lw_good := gmem (i := 2129) (by decide +kernel) rfl
theorem kf_J0_9 : Cond.fieldLink RJ0 9 "java/lang/String" "value" "[B" ∈ lw_good := gmem (i := 2130) (by decide +kernel) rfl
theorem kf_J0_15 : Cond.fieldLink RJ0 15 "java/lang/String" "coder" "B" ∈ lw_good := gmem (i := 2131) (by decide +kernel) rfl
