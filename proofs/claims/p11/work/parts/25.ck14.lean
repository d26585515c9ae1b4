theorem ck_282_e : bm_ce mt ct_282d ct_282 3000 = true := by decide +kernel
theorem ck_282_0 : bm_ch mt ct_282d ct_282 3000 0 = true := by decide +kernel
theorem ck_282_1 : bm_ch mt ct_282d ct_282 3000 1 = true := by decide +kernel
theorem ck_282_2 : bm_ch mt ct_282d ct_282 3000 2 = true := by decide +kernel
theorem ck_282_3 : bm_ch mt ct_282d ct_282 3000 3 = true := by decide +kernel
theorem ck_282_4 : bm_ch mt ct_282d ct_282 3000 4 = true := by decide +kernel
theorem ck_282 : bm_chk mt ct_282d ct_282 3000 = true := bm_join ck_282_e (fun j hj => by
  have hj : j < 5 := hj
  match j, hj with
  | 0, _ => exact ck_282_0
  | 1, _ => exact ck_282_1
  | 2, _ => exact ck_282_2
  | 3, _ => exact ck_282_3
  | 4, _ => exact ck_282_4
  | j + 5, hj => exact absurd hj (by omega))
