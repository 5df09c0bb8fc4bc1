/-! the rows of the methods are what the bytes say -/
set_option maxRecDepth 100000 in
theorem zdX7_readCorner : fX7_readCorner.2.2.2.all (fun e => zdec fX7_readCorner e && zext fX7_readCorner e) = true := by decide +kernel
set_option maxRecDepth 100000 in
theorem zdX7_readNumber : fX7_readNumber.2.2.2.all (fun e => zdec fX7_readNumber e && zext fX7_readNumber e) = true := by decide +kernel
set_option maxRecDepth 100000 in
theorem zdX7_readEnd : fX7_readEnd.2.2.2.all (fun e => zdec fX7_readEnd e && zext fX7_readEnd e) = true := by decide +kernel
set_option maxRecDepth 100000 in
theorem zdX7_isFigure : fX7_isFigure.2.2.2.all (fun e => zdec fX7_isFigure e && zext fX7_isFigure e) = true := by decide +kernel
set_option maxRecDepth 100000 in
theorem zdX8_clear : fX8_clear.2.2.2.all (fun e => zdec fX8_clear e && zext fX8_clear e) = true := by decide +kernel
set_option maxRecDepth 100000 in
theorem zdX8_copyFrom : fX8_copyFrom.2.2.2.all (fun e => zdec fX8_copyFrom e && zext fX8_copyFrom e) = true := by decide +kernel
set_option maxRecDepth 100000 in
theorem zdX8_hasStreet : fX8_hasStreet.2.2.2.all (fun e => zdec fX8_hasStreet e && zext fX8_hasStreet e) = true := by decide +kernel
set_option maxRecDepth 100000 in
theorem zdX8_hasTwoStreets : fX8_hasTwoStreets.2.2.2.all (fun e => zdec fX8_hasTwoStreets e && zext fX8_hasTwoStreets e) = true := by decide +kernel
set_option maxRecDepth 100000 in
theorem zdX8_hasCorner : fX8_hasCorner.2.2.2.all (fun e => zdec fX8_hasCorner e && zext fX8_hasCorner e) = true := by decide +kernel
set_option maxRecDepth 100000 in
theorem zdX8_hasWord : fX8_hasWord.2.2.2.all (fun e => zdec fX8_hasWord e && zext fX8_hasWord e) = true := by decide +kernel
set_option maxRecDepth 100000 in
theorem zdX8_hasSaying : fX8_hasSaying.2.2.2.all (fun e => zdec fX8_hasSaying e && zext fX8_hasSaying e) = true := by decide +kernel
set_option maxRecDepth 100000 in
theorem zdX8_areJoined : fX8_areJoined.2.2.2.all (fun e => zdec fX8_areJoined e && zext fX8_areJoined e) = true := by decide +kernel
set_option maxRecDepth 100000 in
theorem zdX8_otherEnd : fX8_otherEnd.2.2.2.all (fun e => zdec fX8_otherEnd e && zext fX8_otherEnd e) = true := by decide +kernel
set_option maxRecDepth 100000 in
theorem zdX9_find : fX9_find.2.2.2.all (fun e => zdec fX9_find e && zext fX9_find e) = true := by decide +kernel
set_option maxRecDepth 100000 in
theorem zdX9_measure : fX9_measure.2.2.2.all (fun e => zdec fX9_measure e && zext fX9_measure e) = true := by decide +kernel
set_option maxRecDepth 100000 in
theorem zdX9_lower : fX9_lower.2.2.2.all (fun e => zdec fX9_lower e && zext fX9_lower e) = true := by decide +kernel
set_option maxRecDepth 100000 in
theorem zdX9_price : fX9_price.2.2.2.all (fun e => zdec fX9_price e && zext fX9_price e) = true := by decide +kernel
set_option maxRecDepth 100000 in
theorem zdX9_firstCorner : fX9_firstCorner.2.2.2.all (fun e => zdec fX9_firstCorner e && zext fX9_firstCorner e) = true := by decide +kernel
set_option maxRecDepth 100000 in
theorem zdX9_wordOnWay : fX9_wordOnWay.2.2.2.all (fun e => zdec fX9_wordOnWay e && zext fX9_wordOnWay e) = true := by decide +kernel
set_option maxRecDepth 100000 in
theorem zdX9_sayingOnWay : fX9_sayingOnWay.2.2.2.all (fun e => zdec fX9_sayingOnWay e && zext fX9_sayingOnWay e) = true := by decide +kernel
set_option maxRecDepth 100000 in
theorem zdX10_feed : fX10_feed.2.2.2.all (fun e => zdec fX10_feed e && zext fX10_feed e) = true := by decide +kernel
set_option maxRecDepth 100000 in
theorem zdX10_town : fX10_town.2.2.2.all (fun e => zdec fX10_town e && zext fX10_town e) = true := by decide +kernel
set_option maxRecDepth 100000 in
theorem zdX10_fault : fX10_fault.2.2.2.all (fun e => zdec fX10_fault e && zext fX10_fault e) = true := by decide +kernel
set_option maxRecDepth 100000 in
theorem zdX10_told : fX10_told.2.2.2.all (fun e => zdec fX10_told e && zext fX10_told e) = true := by decide +kernel
set_option maxRecDepth 100000 in
theorem zdX10_street : fX10_street.2.2.2.all (fun e => zdec fX10_street e && zext fX10_street e) = true := by decide +kernel
set_option maxRecDepth 100000 in
theorem zdX10_corner : fX10_corner.2.2.2.all (fun e => zdec fX10_corner e && zext fX10_corner e) = true := by decide +kernel
set_option maxRecDepth 100000 in
theorem zdX10_logged : fX10_logged.2.2.2.all (fun e => zdec fX10_logged e && zext fX10_logged e) = true := by decide +kernel
set_option maxRecDepth 100000 in
theorem zdX10_say : fX10_say.2.2.2.all (fun e => zdec fX10_say e && zext fX10_say e) = true := by decide +kernel
set_option maxRecDepth 100000 in
theorem zdX10_send : fX10_send.2.2.2.all (fun e => zdec fX10_send e && zext fX10_send e) = true := by decide +kernel
set_option maxRecDepth 100000 in
theorem zdX10_shut : fX10_shut.2.2.2.all (fun e => zdec fX10_shut e && zext fX10_shut e) = true := by decide +kernel
set_option maxRecDepth 100000 in
theorem zdX10_mend : fX10_mend.2.2.2.all (fun e => zdec fX10_mend e && zext fX10_mend e) = true := by decide +kernel
set_option maxRecDepth 100000 in
theorem zdX10_quarrel : fX10_quarrel.2.2.2.all (fun e => zdec fX10_quarrel e && zext fX10_quarrel e) = true := by decide +kernel
set_option maxRecDepth 100000 in
theorem zdX10_drift : fX10_drift.2.2.2.all (fun e => zdec fX10_drift e && zext fX10_drift e) = true := by decide +kernel
set_option maxRecDepth 100000 in
theorem zdX10_undo : fX10_undo.2.2.2.all (fun e => zdec fX10_undo e && zext fX10_undo e) = true := by decide +kernel
set_option maxRecDepth 100000 in
theorem zdX10_over : fX10_over.2.2.2.all (fun e => zdec fX10_over e && zext fX10_over e) = true := by decide +kernel
set_option maxRecDepth 100000 in
theorem zdX10_becomes : fX10_becomes.2.2.2.all (fun e => zdec fX10_becomes e && zext fX10_becomes e) = true := by decide +kernel
set_option maxRecDepth 100000 in
theorem zdX10_way : fX10_way.2.2.2.all (fun e => zdec fX10_way e && zext fX10_way e) = true := by decide +kernel
set_option maxRecDepth 100000 in
theorem zdX10_through : fX10_through.2.2.2.all (fun e => zdec fX10_through e && zext fX10_through e) = true := by decide +kernel
set_option maxRecDepth 100000 in
theorem zdX10_code : fX10_code.2.2.2.all (fun e => zdec fX10_code e && zext fX10_code e) = true := by decide +kernel
set_option maxRecDepth 100000 in
theorem zdX10_origin : fX10_origin.2.2.2.all (fun e => zdec fX10_origin e && zext fX10_origin e) = true := by decide +kernel
set_option maxRecDepth 100000 in
theorem zdX10_ring : fX10_ring.2.2.2.all (fun e => zdec fX10_ring e && zext fX10_ring e) = true := by decide +kernel
set_option maxRecDepth 100000 in
theorem zdX10_more : fX10_more.2.2.2.all (fun e => zdec fX10_more e && zext fX10_more e) = true := by decide +kernel
set_option maxRecDepth 100000 in
theorem zdX10_cut : fX10_cut.2.2.2.all (fun e => zdec fX10_cut e && zext fX10_cut e) = true := by decide +kernel
set_option maxRecDepth 100000 in
theorem zdX10_walk : fX10_walk.2.2.2.all (fun e => zdec fX10_walk e && zext fX10_walk e) = true := by decide +kernel
set_option maxRecDepth 100000 in
theorem zdX10_holds : fX10_holds.2.2.2.all (fun e => zdec fX10_holds e && zext fX10_holds e) = true := by decide +kernel
set_option maxRecDepth 100000 in
theorem zdX10_see : fX10_see.2.2.2.all (fun e => zdec fX10_see e && zext fX10_see e) = true := by decide +kernel
set_option maxRecDepth 100000 in
theorem zdX10_slips : fX10_slips.2.2.2.all (fun e => zdec fX10_slips e && zext fX10_slips e) = true := by decide +kernel
set_option maxRecDepth 100000 in
theorem zdX10_tryNext : fX10_tryNext.2.2.2.all (fun e => zdec fX10_tryNext e && zext fX10_tryNext e) = true := by decide +kernel
set_option maxRecDepth 100000 in
theorem zdX10_write : fX10_write.2.2.2.all (fun e => zdec fX10_write e && zext fX10_write e) = true := by decide +kernel
set_option maxRecDepth 100000 in
theorem zdX10_tear : fX10_tear.2.2.2.all (fun e => zdec fX10_tear e && zext fX10_tear e) = true := by decide +kernel
set_option maxRecDepth 100000 in
theorem zdX10_judge : fX10_judge.2.2.2.all (fun e => zdec fX10_judge e && zext fX10_judge e) = true := by decide +kernel
set_option maxRecDepth 100000 in
theorem zdX10_seed : fX10_seed.2.2.2.all (fun e => zdec fX10_seed e && zext fX10_seed e) = true := by decide +kernel
set_option maxRecDepth 100000 in
theorem zdX10_keep : fX10_keep.2.2.2.all (fun e => zdec fX10_keep e && zext fX10_keep e) = true := by decide +kernel
set_option maxRecDepth 100000 in
theorem zdX10_goBack : fX10_goBack.2.2.2.all (fun e => zdec fX10_goBack e && zext fX10_goBack e) = true := by decide +kernel
set_option maxRecDepth 100000 in
theorem zdX10_deliver : fX10_deliver.2.2.2.all (fun e => zdec fX10_deliver e && zext fX10_deliver e) = true := by decide +kernel
set_option maxRecDepth 100000 in
theorem zdX10_passDay : fX10_passDay.2.2.2.all (fun e => zdec fX10_passDay e && zext fX10_passDay e) = true := by decide +kernel
set_option maxRecDepth 100000 in
theorem zdX10_draw : fX10_draw.2.2.2.all (fun e => zdec fX10_draw e && zext fX10_draw e) = true := by decide +kernel
set_option maxRecDepth 100000 in
theorem zdX10_putOver : fX10_putOver.2.2.2.all (fun e => zdec fX10_putOver e && zext fX10_putOver e) = true := by decide +kernel
set_option maxRecDepth 100000 in
theorem zdX10_holdsWord : fX10_holdsWord.2.2.2.all (fun e => zdec fX10_holdsWord e && zext fX10_holdsWord e) = true := by decide +kernel
set_option maxRecDepth 100000 in
theorem zdX11_in : fX11_in.2.2.2.all (fun e => zdec fX11_in e && zext fX11_in e) = true := by decide +kernel
set_option maxRecDepth 100000 in
theorem zdX11_has : fX11_has.2.2.2.all (fun e => zdec fX11_has e && zext fX11_has e) = true := by decide +kernel
set_option maxRecDepth 100000 in
theorem zdX11_bits : fX11_bits.2.2.2.all (fun e => zdec fX11_bits e && zext fX11_bits e) = true := by decide +kernel
set_option maxRecDepth 100000 in
theorem zdX11_isWord : fX11_isWord.2.2.2.all (fun e => zdec fX11_isWord e && zext fX11_isWord e) = true := by decide +kernel
set_option maxRecDepth 100000 in
theorem zdX11_isStreet : fX11_isStreet.2.2.2.all (fun e => zdec fX11_isStreet e && zext fX11_isStreet e) = true := by decide +kernel
set_option maxRecDepth 100000 in
theorem zdX11_areTwo : fX11_areTwo.2.2.2.all (fun e => zdec fX11_areTwo e && zext fX11_areTwo e) = true := by decide +kernel
set_option maxRecDepth 100000 in
theorem zdX11_isCorner : fX11_isCorner.2.2.2.all (fun e => zdec fX11_isCorner e && zext fX11_isCorner e) = true := by decide +kernel
