theorem ck_256 : bm_chk mt ct_256d ct_256 3000 = true := by decide +kernel
theorem ck_257 : bm_chk mt ct_257d ct_257 3000 = true := by decide +kernel
theorem ck_258 : bm_chk mt ct_258d ct_258 3000 = true := by decide +kernel
theorem ck_259 : bm_chk mt ct_259d ct_259 3000 = true := by decide +kernel
theorem ck_260 : bm_chk mt ct_260d ct_260 3000 = true := by decide +kernel
theorem ck_261 : bm_chk mt ct_261d ct_261 3000 = true := by decide +kernel
theorem ck_262 : bm_chk mt ct_262d ct_262 3000 = true := by decide +kernel
theorem ck_263 : bm_chk mt ct_263d ct_263 3000 = true := by decide +kernel
theorem ck_264 : bm_chk mt ct_264d ct_264 3000 = true := by decide +kernel
theorem ck_265 : bm_chk mt ct_265d ct_265 3000 = true := by decide +kernel
theorem ck_266 : bm_chk mt ct_266d ct_266 3000 = true := by decide +kernel
theorem ck_267 : bm_chk mt ct_267d ct_267 3000 = true := by decide +kernel
theorem ck_268_e : bm_ce mt ct_268d ct_268 3000 = true := by decide +kernel
theorem ck_268_0 : bm_ch mt ct_268d ct_268 3000 0 = true := by decide +kernel
theorem ck_268 : bm_chk mt ct_268d ct_268 3000 = true := bm_join ck_268_e (fun j hj => by
  have hj : j < 1 := hj
  match j, hj with
  | 0, _ => exact ck_268_0
  | j + 1, hj => exact absurd hj (by omega))
