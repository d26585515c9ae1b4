theorem ck_265_e : bm_ce mt ct_265d ct_265 3000 = true := by decide +kernel
theorem ck_265 : bm_chk mt ct_265d ct_265 3000 = true := bm_join ck_265_e (fun j hj => by
  have hj : j < 0 := hj
  match j, hj with
  | j + 0, hj => exact absurd hj (by omega))
theorem ck_266 : bm_chk mt ct_266d ct_266 3000 = true := by decide +kernel
theorem ck_267 : bm_chk mt ct_267d ct_267 3000 = true := by decide +kernel
