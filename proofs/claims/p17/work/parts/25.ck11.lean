theorem ck_286 : bm_chk mt ct_286d ct_286 3000 = true := by decide +kernel
theorem ck_287 : bm_chk mt ct_287d ct_287 3000 = true := by decide +kernel
theorem ck_288 : bm_chk mt ct_288d ct_288 3000 = true := by decide +kernel
