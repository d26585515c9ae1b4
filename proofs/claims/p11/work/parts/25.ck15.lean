theorem ck_283 : bm_chk mt ct_283d ct_283 3000 = true := by decide +kernel
theorem ck_284 : bm_chk mt ct_284d ct_284 3000 = true := by decide +kernel
