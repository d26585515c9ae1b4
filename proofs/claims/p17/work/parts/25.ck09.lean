theorem ck_282 : bm_chk mt ct_282d ct_282 3000 = true := by decide +kernel
