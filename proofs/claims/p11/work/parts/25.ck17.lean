theorem ck_286_e : bm_ce mt ct_286d ct_286 3000 = true := by decide +kernel
theorem ck_286_0 : bm_ch mt ct_286d ct_286 3000 0 = true := by decide +kernel
theorem ck_286_1 : bm_ch mt ct_286d ct_286 3000 1 = true := by decide +kernel
theorem ck_286_2 : bm_ch mt ct_286d ct_286 3000 2 = true := by decide +kernel
theorem ck_286_3 : bm_ch mt ct_286d ct_286 3000 3 = true := by decide +kernel
theorem ck_286_4 : bm_ch mt ct_286d ct_286 3000 4 = true := by decide +kernel
theorem ck_286_5 : bm_ch mt ct_286d ct_286 3000 5 = true := by decide +kernel
theorem ck_286_6 : bm_ch mt ct_286d ct_286 3000 6 = true := by decide +kernel
theorem ck_286_7 : bm_ch mt ct_286d ct_286 3000 7 = true := by decide +kernel
theorem ck_286 : bm_chk mt ct_286d ct_286 3000 = true := bm_join ck_286_e (fun j hj => by
  have hj : j < 8 := hj
  match j, hj with
  | 0, _ => exact ck_286_0
  | 1, _ => exact ck_286_1
  | 2, _ => exact ck_286_2
  | 3, _ => exact ck_286_3
  | 4, _ => exact ck_286_4
  | 5, _ => exact ck_286_5
  | 6, _ => exact ck_286_6
  | 7, _ => exact ck_286_7
  | j + 8, hj => exact absurd hj (by omega))
