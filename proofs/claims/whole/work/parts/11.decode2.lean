/-! the rows of the methods are what the bytes say -/
set_option maxRecDepth 100000 in
theorem zdX11_feed : fX11_feed.2.2.2.all (fun e => zdec fX11_feed e && zext fX11_feed e) = true := by decide +kernel
set_option maxRecDepth 100000 in
theorem zdX11_here : fX11_here.2.2.2.all (fun e => zdec fX11_here e && zext fX11_here e) = true := by decide +kernel
set_option maxRecDepth 100000 in
theorem zdX11_fails : fX11_fails.2.2.2.all (fun e => zdec fX11_fails e && zext fX11_fails e) = true := by decide +kernel
set_option maxRecDepth 100000 in
theorem zdX11_takeNumber : fX11_takeNumber.2.2.2.all (fun e => zdec fX11_takeNumber e && zext fX11_takeNumber e) = true := by decide +kernel
set_option maxRecDepth 100000 in
theorem zdX11_into : fX11_into.2.2.2.all (fun e => zdec fX11_into e && zext fX11_into e) = true := by decide +kernel
set_option maxRecDepth 100000 in
theorem zdX11_takeWords : fX11_takeWords.2.2.2.all (fun e => zdec fX11_takeWords e && zext fX11_takeWords e) = true := by decide +kernel
set_option maxRecDepth 100000 in
theorem zdX11_takeStreet : fX11_takeStreet.2.2.2.all (fun e => zdec fX11_takeStreet e && zext fX11_takeStreet e) = true := by decide +kernel
set_option maxRecDepth 100000 in
theorem zdX11_isJoined : fX11_isJoined.2.2.2.all (fun e => zdec fX11_isJoined e && zext fX11_isJoined e) = true := by decide +kernel
set_option maxRecDepth 100000 in
theorem zdX11_takeCorner : fX11_takeCorner.2.2.2.all (fun e => zdec fX11_takeCorner e && zext fX11_takeCorner e) = true := by decide +kernel
set_option maxRecDepth 100000 in
theorem zdX11_takeClause : fX11_takeClause.2.2.2.all (fun e => zdec fX11_takeClause e && zext fX11_takeClause e) = true := by decide +kernel
set_option maxRecDepth 100000 in
theorem zdX11_copyRow : fX11_copyRow.2.2.2.all (fun e => zdec fX11_copyRow e && zext fX11_copyRow e) = true := by decide +kernel
set_option maxRecDepth 100000 in
theorem zdX11_takeRead : fX11_takeRead.2.2.2.all (fun e => zdec fX11_takeRead e && zext fX11_takeRead e) = true := by decide +kernel
set_option maxRecDepth 100000 in
theorem zdX11_town : fX11_town.2.2.2.all (fun e => zdec fX11_town e && zext fX11_town e) = true := by decide +kernel
set_option maxRecDepth 100000 in
theorem zdX11_fault : fX11_fault.2.2.2.all (fun e => zdec fX11_fault e && zext fX11_fault e) = true := by decide +kernel
set_option maxRecDepth 100000 in
theorem zdX11_slipBy : fX11_slipBy.2.2.2.all (fun e => zdec fX11_slipBy e && zext fX11_slipBy e) = true := by decide +kernel
set_option maxRecDepth 100000 in
theorem zdX11_overAt : fX11_overAt.2.2.2.all (fun e => zdec fX11_overAt e && zext fX11_overAt e) = true := by decide +kernel
set_option maxRecDepth 100000 in
theorem zdX11_isOpen : fX11_isOpen.2.2.2.all (fun e => zdec fX11_isOpen e && zext fX11_isOpen e) = true := by decide +kernel
set_option maxRecDepth 100000 in
theorem zdX11_isSaying : fX11_isSaying.2.2.2.all (fun e => zdec fX11_isSaying e && zext fX11_isSaying e) = true := by decide +kernel
set_option maxRecDepth 100000 in
theorem zdX11_sayingOver : fX11_sayingOver.2.2.2.all (fun e => zdec fX11_sayingOver e && zext fX11_sayingOver e) = true := by decide +kernel
set_option maxRecDepth 100000 in
theorem zdX11_hasWord : fX11_hasWord.2.2.2.all (fun e => zdec fX11_hasWord e && zext fX11_hasWord e) = true := by decide +kernel
set_option maxRecDepth 100000 in
theorem zdX11_pay : fX11_pay.2.2.2.all (fun e => zdec fX11_pay e && zext fX11_pay e) = true := by decide +kernel
set_option maxRecDepth 100000 in
theorem zdX11_setFeud : fX11_setFeud.2.2.2.all (fun e => zdec fX11_setFeud e && zext fX11_setFeud e) = true := by decide +kernel
set_option maxRecDepth 100000 in
theorem zdX11_log : fX11_log.2.2.2.all (fun e => zdec fX11_log e && zext fX11_log e) = true := by decide +kernel
set_option maxRecDepth 100000 in
theorem zdX11_hear : fX11_hear.2.2.2.all (fun e => zdec fX11_hear e && zext fX11_hear e) = true := by decide +kernel
set_option maxRecDepth 100000 in
theorem zdX11_feuds : fX11_feuds.2.2.2.all (fun e => zdec fX11_feuds e && zext fX11_feuds e) = true := by decide +kernel
set_option maxRecDepth 100000 in
theorem zdX11_everywhere : fX11_everywhere.2.2.2.all (fun e => zdec fX11_everywhere e && zext fX11_everywhere e) = true := by decide +kernel
set_option maxRecDepth 100000 in
theorem zdX11_blame : fX11_blame.2.2.2.all (fun e => zdec fX11_blame e && zext fX11_blame e) = true := by decide +kernel
set_option maxRecDepth 100000 in
theorem zdX11_told : fX11_told.2.2.2.all (fun e => zdec fX11_told e && zext fX11_told e) = true := by decide +kernel
set_option maxRecDepth 100000 in
theorem zdX11_street : fX11_street.2.2.2.all (fun e => zdec fX11_street e && zext fX11_street e) = true := by decide +kernel
set_option maxRecDepth 100000 in
theorem zdX11_corner : fX11_corner.2.2.2.all (fun e => zdec fX11_corner e && zext fX11_corner e) = true := by decide +kernel
set_option maxRecDepth 100000 in
theorem zdX11_logged : fX11_logged.2.2.2.all (fun e => zdec fX11_logged e && zext fX11_logged e) = true := by decide +kernel
set_option maxRecDepth 100000 in
theorem zdX11_keyOf : fX11_keyOf.2.2.2.all (fun e => zdec fX11_keyOf e && zext fX11_keyOf e) = true := by decide +kernel
set_option maxRecDepth 100000 in
theorem zdX11_findAway : fX11_findAway.2.2.2.all (fun e => zdec fX11_findAway e && zext fX11_findAway e) = true := by decide +kernel
set_option maxRecDepth 100000 in
theorem zdX11_nextCorner : fX11_nextCorner.2.2.2.all (fun e => zdec fX11_nextCorner e && zext fX11_nextCorner e) = true := by decide +kernel
set_option maxRecDepth 100000 in
theorem zdX11_sentBy : fX11_sentBy.2.2.2.all (fun e => zdec fX11_sentBy e && zext fX11_sentBy e) = true := by decide +kernel
set_option maxRecDepth 100000 in
theorem zdX11_remember : fX11_remember.2.2.2.all (fun e => zdec fX11_remember e && zext fX11_remember e) = true := by decide +kernel
set_option maxRecDepth 100000 in
theorem zdX11_say : fX11_say.2.2.2.all (fun e => zdec fX11_say e && zext fX11_say e) = true := by decide +kernel
set_option maxRecDepth 100000 in
theorem zdX11_sendNow : fX11_sendNow.2.2.2.all (fun e => zdec fX11_sendNow e && zext fX11_sendNow e) = true := by decide +kernel
set_option maxRecDepth 100000 in
theorem zdX11_send : fX11_send.2.2.2.all (fun e => zdec fX11_send e && zext fX11_send e) = true := by decide +kernel
set_option maxRecDepth 100000 in
theorem zdX11_turn : fX11_turn.2.2.2.all (fun e => zdec fX11_turn e && zext fX11_turn e) = true := by decide +kernel
set_option maxRecDepth 100000 in
theorem zdX11_shut : fX11_shut.2.2.2.all (fun e => zdec fX11_shut e && zext fX11_shut e) = true := by decide +kernel
set_option maxRecDepth 100000 in
theorem zdX11_mend : fX11_mend.2.2.2.all (fun e => zdec fX11_mend e && zext fX11_mend e) = true := by decide +kernel
set_option maxRecDepth 100000 in
theorem zdX11_quarrel : fX11_quarrel.2.2.2.all (fun e => zdec fX11_quarrel e && zext fX11_quarrel e) = true := by decide +kernel
set_option maxRecDepth 100000 in
theorem zdX11_draw : fX11_draw.2.2.2.all (fun e => zdec fX11_draw e && zext fX11_draw e) = true := by decide +kernel
