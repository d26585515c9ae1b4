theorem ck_241 : bm_chk mt ct_241d ct_241 3000 = true := by decide +kernel
