theorem ck_237_e : bm_ce mt ct_237d ct_237 3000 = true := by decide +kernel
theorem ck_237_0 : bm_ch mt ct_237d ct_237 3000 0 = true := by decide +kernel
theorem ck_237_1 : bm_ch mt ct_237d ct_237 3000 1 = true := by decide +kernel
theorem ck_237_2 : bm_ch mt ct_237d ct_237 3000 2 = true := by decide +kernel
theorem ck_237_3 : bm_ch mt ct_237d ct_237 3000 3 = true := by decide +kernel
theorem ck_237_4 : bm_ch mt ct_237d ct_237 3000 4 = true := by decide +kernel
theorem ck_237_5 : bm_ch mt ct_237d ct_237 3000 5 = true := by decide +kernel
theorem ck_237 : bm_chk mt ct_237d ct_237 3000 = true := bm_join ck_237_e (fun j hj => by
  have hj : j < 6 := hj
  match j, hj with
  | 0, _ => exact ck_237_0
  | 1, _ => exact ck_237_1
  | 2, _ => exact ck_237_2
  | 3, _ => exact ck_237_3
  | 4, _ => exact ck_237_4
  | 5, _ => exact ck_237_5
  | j + 6, hj => exact absurd hj (by omega))
