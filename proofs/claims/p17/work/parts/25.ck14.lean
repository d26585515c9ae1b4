theorem ck_268_e : bm_ce mt ct_268d ct_268 3000 = true := by decide +kernel
theorem ck_268_0 : bm_ch mt ct_268d ct_268 3000 0 = true := by decide +kernel
theorem ck_268 : bm_chk mt ct_268d ct_268 3000 = true := bm_join ck_268_e (fun j hj => by
  have hj : j < 1 := hj
  match j, hj with
  | 0, _ => exact ck_268_0
  | j + 1, hj => exact absurd hj (by omega))
theorem ck_269 : bm_chk mt ct_269d ct_269 3000 = true := by decide +kernel
theorem ck_270 : bm_chk mt ct_270d ct_270 3000 = true := by decide +kernel
theorem ck_271 : bm_chk mt ct_271d ct_271 3000 = true := by decide +kernel
theorem ck_272 : bm_chk mt ct_272d ct_272 3000 = true := by decide +kernel
theorem ck_273 : bm_chk mt ct_273d ct_273 3000 = true := by decide +kernel
theorem ck_274 : bm_chk mt ct_274d ct_274 3000 = true := by decide +kernel
theorem ck_275 : bm_chk mt ct_275d ct_275 3000 = true := by decide +kernel
theorem ck_276 : bm_chk mt ct_276d ct_276 3000 = true := by decide +kernel
theorem ck_277 : bm_chk mt ct_277d ct_277 3000 = true := by decide +kernel
theorem ck_278 : bm_chk mt ct_278d ct_278 3000 = true := by decide +kernel
theorem ck_279 : bm_chk mt ct_279d ct_279 3000 = true := by decide +kernel
theorem ck_280 : bm_chk mt ct_280d ct_280 3000 = true := by decide +kernel
