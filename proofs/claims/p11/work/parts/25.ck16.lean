theorem ck_285_e : bm_ce mt ct_285d ct_285 3000 = true := by decide +kernel
theorem ck_285 : bm_chk mt ct_285d ct_285 3000 = true := bm_join ck_285_e (fun j hj => by
  have hj : j < 0 := hj
  match j, hj with
  | j + 0, hj => exact absurd hj (by omega))
