theorem ck_275 : bm_chk mt ct_275d ct_275 3000 = true := by decide +kernel
theorem ck_276 : bm_chk mt ct_276d ct_276 3000 = true := by decide +kernel
theorem ck_277 : bm_chk mt ct_277d ct_277 3000 = true := by decide +kernel
theorem ck_278 : bm_chk mt ct_278d ct_278 3000 = true := by decide +kernel
theorem ck_279 : bm_chk mt ct_279d ct_279 3000 = true := by decide +kernel
theorem ck_280 : bm_chk mt ct_280d ct_280 3000 = true := by decide +kernel
theorem ck_281 : bm_chk mt ct_281d ct_281 3000 = true := by decide +kernel
