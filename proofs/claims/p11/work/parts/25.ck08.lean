theorem ck_238_e : bm_ce mt ct_238d ct_238 3000 = true := by decide +kernel
theorem ck_238_0 : bm_ch mt ct_238d ct_238 3000 0 = true := by decide +kernel
theorem ck_238_1 : bm_ch mt ct_238d ct_238 3000 1 = true := by decide +kernel
theorem ck_238_2 : bm_ch mt ct_238d ct_238 3000 2 = true := by decide +kernel
theorem ck_238_3 : bm_ch mt ct_238d ct_238 3000 3 = true := by decide +kernel
theorem ck_238_4 : bm_ch mt ct_238d ct_238 3000 4 = true := by decide +kernel
theorem ck_238_5 : bm_ch mt ct_238d ct_238 3000 5 = true := by decide +kernel
theorem ck_238_6 : bm_ch mt ct_238d ct_238 3000 6 = true := by decide +kernel
theorem ck_238_7 : bm_ch mt ct_238d ct_238 3000 7 = true := by decide +kernel
theorem ck_238 : bm_chk mt ct_238d ct_238 3000 = true := bm_join ck_238_e (fun j hj => by
  have hj : j < 8 := hj
  match j, hj with
  | 0, _ => exact ck_238_0
  | 1, _ => exact ck_238_1
  | 2, _ => exact ck_238_2
  | 3, _ => exact ck_238_3
  | 4, _ => exact ck_238_4
  | 5, _ => exact ck_238_5
  | 6, _ => exact ck_238_6
  | 7, _ => exact ck_238_7
  | j + 8, hj => exact absurd hj (by omega))
