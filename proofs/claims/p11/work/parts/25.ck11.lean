theorem ck_247_e : bm_ce mt ct_247d ct_247 3000 = true := by decide +kernel
theorem ck_247_0 : bm_ch mt ct_247d ct_247 3000 0 = true := by decide +kernel
theorem ck_247 : bm_chk mt ct_247d ct_247 3000 = true := bm_join ck_247_e (fun j hj => by
  have hj : j < 1 := hj
  match j, hj with
  | 0, _ => exact ck_247_0
  | j + 1, hj => exact absurd hj (by omega))
theorem ck_248 : bm_chk mt ct_248d ct_248 3000 = true := by decide +kernel
theorem ck_249 : bm_chk mt ct_249d ct_249 3000 = true := by decide +kernel
theorem ck_250 : bm_chk mt ct_250d ct_250 3000 = true := by decide +kernel
theorem ck_251 : bm_chk mt ct_251d ct_251 3000 = true := by decide +kernel
theorem ck_252 : bm_chk mt ct_252d ct_252 3000 = true := by decide +kernel
theorem ck_253 : bm_chk mt ct_253d ct_253 3000 = true := by decide +kernel
theorem ck_254 : bm_chk mt ct_254d ct_254 3000 = true := by decide +kernel
theorem ck_255 : bm_chk mt ct_255d ct_255 3000 = true := by decide +kernel
