theorem ck_278 : bm_chk mt ct_278d ct_278 3000 = true := by decide +kernel
theorem ck_279 : bm_chk mt ct_279d ct_279 3000 = true := by decide +kernel
theorem ck_280 : bm_chk mt ct_280d ct_280 3000 = true := by decide +kernel
theorem ck_281 : bm_chk mt ct_281d ct_281 3000 = true := by decide +kernel
theorem ck_282 : bm_chk mt ct_282d ct_282 3000 = true := by decide +kernel
theorem ck_283 : bm_chk mt ct_283d ct_283 3000 = true := by decide +kernel
theorem ck_284 : bm_chk mt ct_284d ct_284 3000 = true := by decide +kernel
