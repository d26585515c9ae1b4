theorem ck_285 : bm_chk mt ct_285d ct_285 3000 = true := by decide +kernel
