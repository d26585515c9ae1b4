theorem ck_242 : bm_chk mt ct_242d ct_242 3000 = true := by decide +kernel
theorem ck_243 : bm_chk mt ct_243d ct_243 3000 = true := by decide +kernel
theorem ck_244 : bm_chk mt ct_244d ct_244 3000 = true := by decide +kernel
theorem ck_245 : bm_chk mt ct_245d ct_245 3000 = true := by decide +kernel
theorem ck_246 : bm_chk mt ct_246d ct_246 3000 = true := by decide +kernel
theorem ck_247 : bm_chk mt ct_247d ct_247 3000 = true := by decide +kernel
