theorem ck_239 : bm_chk mt ct_239d ct_239 3000 = true := by decide +kernel
theorem ck_240 : bm_chk mt ct_240d ct_240 3000 = true := by decide +kernel
