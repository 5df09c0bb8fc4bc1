/-! the rows of the methods are what the bytes say -/
set_option maxRecDepth 100000 in
theorem zdX0_begin : fX0_begin.2.2.2.all (fun e => zdec fX0_begin e && zext fX0_begin e) = true := by decide +kernel
set_option maxRecDepth 100000 in
theorem zdX0_pence : fX0_pence.2.2.2.all (fun e => zdec fX0_pence e && zext fX0_pence e) = true := by decide +kernel
set_option maxRecDepth 100000 in
theorem zdX0_husbands : fX0_husbands.2.2.2.all (fun e => zdec fX0_husbands e && zext fX0_husbands e) = true := by decide +kernel
set_option maxRecDepth 100000 in
theorem zdX0_shutSet : fX0_shutSet.2.2.2.all (fun e => zdec fX0_shutSet e && zext fX0_shutSet e) = true := by decide +kernel
set_option maxRecDepth 100000 in
theorem zdX0_logCount : fX0_logCount.2.2.2.all (fun e => zdec fX0_logCount e && zext fX0_logCount e) = true := by decide +kernel
set_option maxRecDepth 100000 in
theorem zdX0_heardBy : fX0_heardBy.2.2.2.all (fun e => zdec fX0_heardBy e && zext fX0_heardBy e) = true := by decide +kernel
set_option maxRecDepth 100000 in
theorem zdX0_feudsOf : fX0_feudsOf.2.2.2.all (fun e => zdec fX0_feudsOf e && zext fX0_feudsOf e) = true := by decide +kernel
set_option maxRecDepth 100000 in
theorem zdX0_sortOf : fX0_sortOf.2.2.2.all (fun e => zdec fX0_sortOf e && zext fX0_sortOf e) = true := by decide +kernel
set_option maxRecDepth 100000 in
theorem zdX0_logEntry : fX0_logEntry.2.2.2.all (fun e => zdec fX0_logEntry e && zext fX0_logEntry e) = true := by decide +kernel
set_option maxRecDepth 100000 in
theorem zdX0_isShut : fX0_isShut.2.2.2.all (fun e => zdec fX0_isShut e && zext fX0_isShut e) = true := by decide +kernel
set_option maxRecDepth 100000 in
theorem zdX0_inFeud : fX0_inFeud.2.2.2.all (fun e => zdec fX0_inFeud e && zext fX0_inFeud e) = true := by decide +kernel
set_option maxRecDepth 100000 in
theorem zdX0_setShut : fX0_setShut.2.2.2.all (fun e => zdec fX0_setShut e && zext fX0_setShut e) = true := by decide +kernel
set_option maxRecDepth 100000 in
theorem zdX0_setSort : fX0_setSort.2.2.2.all (fun e => zdec fX0_setSort e && zext fX0_setSort e) = true := by decide +kernel
set_option maxRecDepth 100000 in
theorem zdX0_setFeud : fX0_setFeud.2.2.2.all (fun e => zdec fX0_setFeud e && zext fX0_setFeud e) = true := by decide +kernel
set_option maxRecDepth 100000 in
theorem zdX0_countFeuds : fX0_countFeuds.2.2.2.all (fun e => zdec fX0_countFeuds e && zext fX0_countFeuds e) = true := by decide +kernel
set_option maxRecDepth 100000 in
theorem zdX0_pay : fX0_pay.2.2.2.all (fun e => zdec fX0_pay e && zext fX0_pay e) = true := by decide +kernel
set_option maxRecDepth 100000 in
theorem zdX0_hear : fX0_hear.2.2.2.all (fun e => zdec fX0_hear e && zext fX0_hear e) = true := by decide +kernel
set_option maxRecDepth 100000 in
theorem zdX0_makePeace : fX0_makePeace.2.2.2.all (fun e => zdec fX0_makePeace e && zext fX0_makePeace e) = true := by decide +kernel
set_option maxRecDepth 100000 in
theorem zdX0_enter : fX0_enter.2.2.2.all (fun e => zdec fX0_enter e && zext fX0_enter e) = true := by decide +kernel
set_option maxRecDepth 100000 in
theorem zdX0_blame : fX0_blame.2.2.2.all (fun e => zdec fX0_blame e && zext fX0_blame e) = true := by decide +kernel
set_option maxRecDepth 100000 in
theorem zdX0_countInsults : fX0_countInsults.2.2.2.all (fun e => zdec fX0_countInsults e && zext fX0_countInsults e) = true := by decide +kernel
set_option maxRecDepth 100000 in
theorem zdX1_clear : fX1_clear.2.2.2.all (fun e => zdec fX1_clear e && zext fX1_clear e) = true := by decide +kernel
set_option maxRecDepth 100000 in
theorem zdX1_append : fX1_append.2.2.2.all (fun e => zdec fX1_append e && zext fX1_append e) = true := by decide +kernel
set_option maxRecDepth 100000 in
theorem zdX1_firstWrong : fX1_firstWrong.2.2.2.all (fun e => zdec fX1_firstWrong e && zext fX1_firstWrong e) = true := by decide +kernel
set_option maxRecDepth 100000 in
theorem zdX2_wordOver : fX2_wordOver.2.2.2.all (fun e => zdec fX2_wordOver e && zext fX2_wordOver e) = true := by decide +kernel
set_option maxRecDepth 100000 in
theorem zdX2_sayingOver : fX2_sayingOver.2.2.2.all (fun e => zdec fX2_sayingOver e && zext fX2_sayingOver e) = true := by decide +kernel
set_option maxRecDepth 100000 in
theorem zdX2_everywhere : fX2_everywhere.2.2.2.all (fun e => zdec fX2_everywhere e && zext fX2_everywhere e) = true := by decide +kernel
set_option maxRecDepth 100000 in
theorem zdX2_staysEverywhere : fX2_staysEverywhere.2.2.2.all (fun e => zdec fX2_staysEverywhere e && zext fX2_staysEverywhere e) = true := by decide +kernel
set_option maxRecDepth 100000 in
theorem zdX3_clear : fX3_clear.2.2.2.all (fun e => zdec fX3_clear e && zext fX3_clear e) = true := by decide +kernel
set_option maxRecDepth 100000 in
theorem zdX3_append : fX3_append.2.2.2.all (fun e => zdec fX3_append e && zext fX3_append e) = true := by decide +kernel
set_option maxRecDepth 100000 in
theorem zdX3_findRows : fX3_findRows.2.2.2.all (fun e => zdec fX3_findRows e && zext fX3_findRows e) = true := by decide +kernel
set_option maxRecDepth 100000 in
theorem zdX3_isRow : fX3_isRow.2.2.2.all (fun e => zdec fX3_isRow e && zext fX3_isRow e) = true := by decide +kernel
set_option maxRecDepth 100000 in
theorem zdX3_fits : fX3_fits.2.2.2.all (fun e => zdec fX3_fits e && zext fX3_fits e) = true := by decide +kernel
set_option maxRecDepth 100000 in
theorem zdX3_bestWord : fX3_bestWord.2.2.2.all (fun e => zdec fX3_bestWord e && zext fX3_bestWord e) = true := by decide +kernel
set_option maxRecDepth 100000 in
theorem zdX3_greatestPart : fX3_greatestPart.2.2.2.all (fun e => zdec fX3_greatestPart e && zext fX3_greatestPart e) = true := by decide +kernel
set_option maxRecDepth 100000 in
theorem zdX4_leastThrough : fX4_leastThrough.2.2.2.all (fun e => zdec fX4_leastThrough e && zext fX4_leastThrough e) = true := by decide +kernel
set_option maxRecDepth 100000 in
theorem zdX4_shortestRing : fX4_shortestRing.2.2.2.all (fun e => zdec fX4_shortestRing e && zext fX4_shortestRing e) = true := by decide +kernel
set_option maxRecDepth 100000 in
theorem zdX4_known : fX4_known.2.2.2.all (fun e => zdec fX4_known e && zext fX4_known e) = true := by decide +kernel
set_option maxRecDepth 100000 in
theorem zdX4_spread : fX4_spread.2.2.2.all (fun e => zdec fX4_spread e && zext fX4_spread e) = true := by decide +kernel
set_option maxRecDepth 100000 in
theorem zdX4_spreadBy : fX4_spreadBy.2.2.2.all (fun e => zdec fX4_spreadBy e && zext fX4_spreadBy e) = true := by decide +kernel
set_option maxRecDepth 100000 in
theorem zdX4_findOrigins : fX4_findOrigins.2.2.2.all (fun e => zdec fX4_findOrigins e && zext fX4_findOrigins e) = true := by decide +kernel
set_option maxRecDepth 100000 in
theorem zdX4_wordsInto : fX4_wordsInto.2.2.2.all (fun e => zdec fX4_wordsInto e && zext fX4_wordsInto e) = true := by decide +kernel
set_option maxRecDepth 100000 in
theorem zdX4_countOrigins : fX4_countOrigins.2.2.2.all (fun e => zdec fX4_countOrigins e && zext fX4_countOrigins e) = true := by decide +kernel
set_option maxRecDepth 100000 in
theorem zdX5_forgetAll : fX5_forgetAll.2.2.2.all (fun e => zdec fX5_forgetAll e && zext fX5_forgetAll e) = true := by decide +kernel
set_option maxRecDepth 100000 in
theorem zdX5_remember : fX5_remember.2.2.2.all (fun e => zdec fX5_remember e && zext fX5_remember e) = true := by decide +kernel
set_option maxRecDepth 100000 in
theorem zdX5_takeBack : fX5_takeBack.2.2.2.all (fun e => zdec fX5_takeBack e && zext fX5_takeBack e) = true := by decide +kernel
set_option maxRecDepth 100000 in
theorem zdX5_hasImage : fX5_hasImage.2.2.2.all (fun e => zdec fX5_hasImage e && zext fX5_hasImage e) = true := by decide +kernel
set_option maxRecDepth 100000 in
theorem zdX5_keepImage : fX5_keepImage.2.2.2.all (fun e => zdec fX5_keepImage e && zext fX5_keepImage e) = true := by decide +kernel
set_option maxRecDepth 100000 in
theorem zdX5_showImage : fX5_showImage.2.2.2.all (fun e => zdec fX5_showImage e && zext fX5_showImage e) = true := by decide +kernel
set_option maxRecDepth 100000 in
theorem zdX6_findNewCorner : fX6_findNewCorner.2.2.2.all (fun e => zdec fX6_findNewCorner e && zext fX6_findNewCorner e) = true := by decide +kernel
set_option maxRecDepth 100000 in
theorem zdX6_measureAll : fX6_measureAll.2.2.2.all (fun e => zdec fX6_measureAll e && zext fX6_measureAll e) = true := by decide +kernel
set_option maxRecDepth 100000 in
theorem zdX6_measureBy : fX6_measureBy.2.2.2.all (fun e => zdec fX6_measureBy e && zext fX6_measureBy e) = true := by decide +kernel
set_option maxRecDepth 100000 in
theorem zdX6_penceOf : fX6_penceOf.2.2.2.all (fun e => zdec fX6_penceOf e && zext fX6_penceOf e) = true := by decide +kernel
set_option maxRecDepth 100000 in
theorem zdX6_totalWith : fX6_totalWith.2.2.2.all (fun e => zdec fX6_totalWith e && zext fX6_totalWith e) = true := by decide +kernel
set_option maxRecDepth 100000 in
theorem zdX6_leastCut : fX6_leastCut.2.2.2.all (fun e => zdec fX6_leastCut e && zext fX6_leastCut e) = true := by decide +kernel
set_option maxRecDepth 100000 in
theorem zdX6_isLesserCut : fX6_isLesserCut.2.2.2.all (fun e => zdec fX6_isLesserCut e && zext fX6_isLesserCut e) = true := by decide +kernel
set_option maxRecDepth 100000 in
theorem zdX6_cornersOutOf : fX6_cornersOutOf.2.2.2.all (fun e => zdec fX6_cornersOutOf e && zext fX6_cornersOutOf e) = true := by decide +kernel
set_option maxRecDepth 100000 in
theorem zdX6_shortestWalk : fX6_shortestWalk.2.2.2.all (fun e => zdec fX6_shortestWalk e && zext fX6_shortestWalk e) = true := by decide +kernel
set_option maxRecDepth 100000 in
theorem zdX6_visit : fX6_visit.2.2.2.all (fun e => zdec fX6_visit e && zext fX6_visit e) = true := by decide +kernel
set_option maxRecDepth 100000 in
theorem zdX7_isFull : fX7_isFull.2.2.2.all (fun e => zdec fX7_isFull e && zext fX7_isFull e) = true := by decide +kernel
set_option maxRecDepth 100000 in
theorem zdX7_append : fX7_append.2.2.2.all (fun e => zdec fX7_append e && zext fX7_append e) = true := by decide +kernel
set_option maxRecDepth 100000 in
theorem zdX7_read : fX7_read.2.2.2.all (fun e => zdec fX7_read e && zext fX7_read e) = true := by decide +kernel
set_option maxRecDepth 100000 in
theorem zdX7_letter : fX7_letter.2.2.2.all (fun e => zdec fX7_letter e && zext fX7_letter e) = true := by decide +kernel
set_option maxRecDepth 100000 in
theorem zdX7_skipBlanks : fX7_skipBlanks.2.2.2.all (fun e => zdec fX7_skipBlanks e && zext fX7_skipBlanks e) = true := by decide +kernel
set_option maxRecDepth 100000 in
theorem zdX7_blameAt : fX7_blameAt.2.2.2.all (fun e => zdec fX7_blameAt e && zext fX7_blameAt e) = true := by decide +kernel
set_option maxRecDepth 100000 in
theorem zdX7_readClause : fX7_readClause.2.2.2.all (fun e => zdec fX7_readClause e && zext fX7_readClause e) = true := by decide +kernel
set_option maxRecDepth 100000 in
theorem zdX7_readWords : fX7_readWords.2.2.2.all (fun e => zdec fX7_readWords e && zext fX7_readWords e) = true := by decide +kernel
set_option maxRecDepth 100000 in
theorem zdX7_readStreet : fX7_readStreet.2.2.2.all (fun e => zdec fX7_readStreet e && zext fX7_readStreet e) = true := by decide +kernel
