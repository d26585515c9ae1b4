theorem ck_232 : bm_chk mt ct_232d ct_232 3000 = true := by decide +kernel
theorem ck_233 : bm_chk mt ct_233d ct_233 3000 = true := by decide +kernel
theorem ck_234 : bm_chk mt ct_234d ct_234 3000 = true := by decide +kernel
theorem ck_235 : bm_chk mt ct_235d ct_235 3000 = true := by decide +kernel
theorem ck_236_e : bm_ce mt ct_236d ct_236 3000 = true := by decide +kernel
theorem ck_236_0 : bm_ch mt ct_236d ct_236 3000 0 = true := by decide +kernel
theorem ck_236_1 : bm_ch mt ct_236d ct_236 3000 1 = true := by decide +kernel
theorem ck_236_2 : bm_ch mt ct_236d ct_236 3000 2 = true := by decide +kernel
theorem ck_236_3 : bm_ch mt ct_236d ct_236 3000 3 = true := by decide +kernel
theorem ck_236 : bm_chk mt ct_236d ct_236 3000 = true := bm_join ck_236_e (fun j hj => by
  have hj : j < 4 := hj
  match j, hj with
  | 0, _ => exact ck_236_0
  | 1, _ => exact ck_236_1
  | 2, _ => exact ck_236_2
  | 3, _ => exact ck_236_3
  | j + 4, hj => exact absurd hj (by omega))
