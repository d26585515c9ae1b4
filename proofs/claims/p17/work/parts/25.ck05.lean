theorem ck_239 : bm_chk mt ct_239d ct_239 3000 = true := by decide +kernel
theorem ck_240 : bm_chk mt ct_240d ct_240 3000 = true := by decide +kernel
theorem ck_241 : bm_chk mt ct_241d ct_241 3000 = true := by decide +kernel
theorem ck_242 : bm_chk mt ct_242d ct_242 3000 = true := by decide +kernel
theorem ck_243 : bm_chk mt ct_243d ct_243 3000 = true := by decide +kernel
theorem ck_244 : bm_chk mt ct_244d ct_244 3000 = true := by decide +kernel
