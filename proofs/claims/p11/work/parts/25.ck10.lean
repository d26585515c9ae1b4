theorem ck_243_e : bm_ce mt ct_243d ct_243 3000 = true := by decide +kernel
theorem ck_243 : bm_chk mt ct_243d ct_243 3000 = true := bm_join ck_243_e (fun j hj => by
  have hj : j < 0 := hj
  match j, hj with
  | j + 0, hj => exact absurd hj (by omega))
theorem ck_244 : bm_chk mt ct_244d ct_244 3000 = true := by decide +kernel
theorem ck_245 : bm_chk mt ct_245d ct_245 3000 = true := by decide +kernel
theorem ck_246 : bm_chk mt ct_246d ct_246 3000 = true := by decide +kernel
