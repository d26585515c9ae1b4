theorem ck_237 : bm_chk mt ct_237d ct_237 3000 = true := by decide +kernel
theorem ck_238 : bm_chk mt ct_238d ct_238 3000 = true := by decide +kernel
