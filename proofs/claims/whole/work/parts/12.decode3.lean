/-! the rows of the methods are what the bytes say -/
set_option maxRecDepth 100000 in
theorem zdX11_chance : fX11_chance.2.2.2.all (fun e => zdec fX11_chance e && zext fX11_chance e) = true := by decide +kernel
set_option maxRecDepth 100000 in
theorem zdX11_drift : fX11_drift.2.2.2.all (fun e => zdec fX11_drift e && zext fX11_drift e) = true := by decide +kernel
set_option maxRecDepth 100000 in
theorem zdX11_undo : fX11_undo.2.2.2.all (fun e => zdec fX11_undo e && zext fX11_undo e) = true := by decide +kernel
set_option maxRecDepth 100000 in
theorem zdX11_over : fX11_over.2.2.2.all (fun e => zdec fX11_over e && zext fX11_over e) = true := by decide +kernel
set_option maxRecDepth 100000 in
theorem zdX11_becomes : fX11_becomes.2.2.2.all (fun e => zdec fX11_becomes e && zext fX11_becomes e) = true := by decide +kernel
set_option maxRecDepth 100000 in
theorem zdX11_way : fX11_way.2.2.2.all (fun e => zdec fX11_way e && zext fX11_way e) = true := by decide +kernel
set_option maxRecDepth 100000 in
theorem zdX11_stepOver : fX11_stepOver.2.2.2.all (fun e => zdec fX11_stepOver e && zext fX11_stepOver e) = true := by decide +kernel
set_option maxRecDepth 100000 in
theorem zdX11_spread : fX11_spread.2.2.2.all (fun e => zdec fX11_spread e && zext fX11_spread e) = true := by decide +kernel
set_option maxRecDepth 100000 in
theorem zdX11_clearCosts : fX11_clearCosts.2.2.2.all (fun e => zdec fX11_clearCosts e && zext fX11_clearCosts e) = true := by decide +kernel
set_option maxRecDepth 100000 in
theorem zdX11_through : fX11_through.2.2.2.all (fun e => zdec fX11_through e && zext fX11_through e) = true := by decide +kernel
set_option maxRecDepth 100000 in
theorem zdX11_code : fX11_code.2.2.2.all (fun e => zdec fX11_code e && zext fX11_code e) = true := by decide +kernel
set_option maxRecDepth 100000 in
theorem zdX11_stepBack : fX11_stepBack.2.2.2.all (fun e => zdec fX11_stepBack e && zext fX11_stepBack e) = true := by decide +kernel
set_option maxRecDepth 100000 in
theorem zdX11_origin : fX11_origin.2.2.2.all (fun e => zdec fX11_origin e && zext fX11_origin e) = true := by decide +kernel
set_option maxRecDepth 100000 in
theorem zdX11_ring : fX11_ring.2.2.2.all (fun e => zdec fX11_ring e && zext fX11_ring e) = true := by decide +kernel
set_option maxRecDepth 100000 in
theorem zdX11_findFares : fX11_findFares.2.2.2.all (fun e => zdec fX11_findFares e && zext fX11_findFares e) = true := by decide +kernel
set_option maxRecDepth 100000 in
theorem zdX11_allFares : fX11_allFares.2.2.2.all (fun e => zdec fX11_allFares e && zext fX11_allFares e) = true := by decide +kernel
set_option maxRecDepth 100000 in
theorem zdX11_haveCorner : fX11_haveCorner.2.2.2.all (fun e => zdec fX11_haveCorner e && zext fX11_haveCorner e) = true := by decide +kernel
set_option maxRecDepth 100000 in
theorem zdX11_more : fX11_more.2.2.2.all (fun e => zdec fX11_more e && zext fX11_more e) = true := by decide +kernel
set_option maxRecDepth 100000 in
theorem zdX11_getsTo : fX11_getsTo.2.2.2.all (fun e => zdec fX11_getsTo e && zext fX11_getsTo e) = true := by decide +kernel
set_option maxRecDepth 100000 in
theorem zdX11_cut : fX11_cut.2.2.2.all (fun e => zdec fX11_cut e && zext fX11_cut e) = true := by decide +kernel
set_option maxRecDepth 100000 in
theorem zdX11_walk : fX11_walk.2.2.2.all (fun e => zdec fX11_walk e && zext fX11_walk e) = true := by decide +kernel
set_option maxRecDepth 100000 in
theorem zdX11_holds : fX11_holds.2.2.2.all (fun e => zdec fX11_holds e && zext fX11_holds e) = true := by decide +kernel
set_option maxRecDepth 100000 in
theorem zdX11_see : fX11_see.2.2.2.all (fun e => zdec fX11_see e && zext fX11_see e) = true := by decide +kernel
set_option maxRecDepth 100000 in
theorem zdX11_couldSlip : fX11_couldSlip.2.2.2.all (fun e => zdec fX11_couldSlip e && zext fX11_couldSlip e) = true := by decide +kernel
set_option maxRecDepth 100000 in
theorem zdX11_slips : fX11_slips.2.2.2.all (fun e => zdec fX11_slips e && zext fX11_slips e) = true := by decide +kernel
set_option maxRecDepth 100000 in
theorem zdX11_greatestPart : fX11_greatestPart.2.2.2.all (fun e => zdec fX11_greatestPart e && zext fX11_greatestPart e) = true := by decide +kernel
set_option maxRecDepth 100000 in
theorem zdX11_tryNext : fX11_tryNext.2.2.2.all (fun e => zdec fX11_tryNext e && zext fX11_tryNext e) = true := by decide +kernel
set_option maxRecDepth 100000 in
theorem zdX11_write : fX11_write.2.2.2.all (fun e => zdec fX11_write e && zext fX11_write e) = true := by decide +kernel
set_option maxRecDepth 100000 in
theorem zdX11_tear : fX11_tear.2.2.2.all (fun e => zdec fX11_tear e && zext fX11_tear e) = true := by decide +kernel
set_option maxRecDepth 100000 in
theorem zdX11_judge : fX11_judge.2.2.2.all (fun e => zdec fX11_judge e && zext fX11_judge e) = true := by decide +kernel
set_option maxRecDepth 100000 in
theorem zdX11_seed : fX11_seed.2.2.2.all (fun e => zdec fX11_seed e && zext fX11_seed e) = true := by decide +kernel
set_option maxRecDepth 100000 in
theorem zdX11_keep : fX11_keep.2.2.2.all (fun e => zdec fX11_keep e && zext fX11_keep e) = true := by decide +kernel
set_option maxRecDepth 100000 in
theorem zdX11_goBack : fX11_goBack.2.2.2.all (fun e => zdec fX11_goBack e && zext fX11_goBack e) = true := by decide +kernel
set_option maxRecDepth 100000 in
theorem zdJ6_bitCount_0f7a4 : fJ6_bitCount_0f7a4.2.2.2.all (fun e => zdec fJ6_bitCount_0f7a4 e && zext fJ6_bitCount_0f7a4 e) = true := by decide +kernel
set_option maxRecDepth 100000 in
theorem zdJ7_fill_53178 : fJ7_fill_53178.2.2.2.all (fun e => zdec fJ7_fill_53178 e && zext fJ7_fill_53178 e) = true := by decide +kernel
