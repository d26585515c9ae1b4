theorem ck_281 : bm_chk mt ct_281d ct_281 3000 = true := by decide +kernel
