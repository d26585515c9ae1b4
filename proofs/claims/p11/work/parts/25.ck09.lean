theorem ck_239_e : bm_ce mt ct_239d ct_239 3000 = true := by decide +kernel
theorem ck_239_0 : bm_ch mt ct_239d ct_239 3000 0 = true := by decide +kernel
theorem ck_239_1 : bm_ch mt ct_239d ct_239 3000 1 = true := by decide +kernel
theorem ck_239_2 : bm_ch mt ct_239d ct_239 3000 2 = true := by decide +kernel
theorem ck_239_3 : bm_ch mt ct_239d ct_239 3000 3 = true := by decide +kernel
theorem ck_239_4 : bm_ch mt ct_239d ct_239 3000 4 = true := by decide +kernel
theorem ck_239_5 : bm_ch mt ct_239d ct_239 3000 5 = true := by decide +kernel
theorem ck_239_6 : bm_ch mt ct_239d ct_239 3000 6 = true := by decide +kernel
theorem ck_239_7 : bm_ch mt ct_239d ct_239 3000 7 = true := by decide +kernel
theorem ck_239_8 : bm_ch mt ct_239d ct_239 3000 8 = true := by decide +kernel
theorem ck_239_9 : bm_ch mt ct_239d ct_239 3000 9 = true := by decide +kernel
theorem ck_239 : bm_chk mt ct_239d ct_239 3000 = true := bm_join ck_239_e (fun j hj => by
  have hj : j < 10 := hj
  match j, hj with
  | 0, _ => exact ck_239_0
  | 1, _ => exact ck_239_1
  | 2, _ => exact ck_239_2
  | 3, _ => exact ck_239_3
  | 4, _ => exact ck_239_4
  | 5, _ => exact ck_239_5
  | 6, _ => exact ck_239_6
  | 7, _ => exact ck_239_7
  | 8, _ => exact ck_239_8
  | 9, _ => exact ck_239_9
  | j + 10, hj => exact absurd hj (by omega))
theorem ck_240 : bm_chk mt ct_240d ct_240 3000 = true := by decide +kernel
theorem ck_241 : bm_chk mt ct_241d ct_241 3000 = true := by decide +kernel
theorem ck_242 : bm_chk mt ct_242d ct_242 3000 = true := by decide +kernel
