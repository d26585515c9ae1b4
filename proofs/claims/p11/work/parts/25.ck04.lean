theorem ck_193 : bm_chk mt ct_193d ct_193 3000 = true := by decide +kernel
theorem ck_194 : bm_chk mt ct_194d ct_194 3000 = true := by decide +kernel
theorem ck_195 : bm_chk mt ct_195d ct_195 3000 = true := by decide +kernel
theorem ck_196 : bm_chk mt ct_196d ct_196 3000 = true := by decide +kernel
theorem ck_197 : bm_chk mt ct_197d ct_197 3000 = true := by decide +kernel
theorem ck_198 : bm_chk mt ct_198d ct_198 3000 = true := by decide +kernel
theorem ck_199 : bm_chk mt ct_199d ct_199 3000 = true := by decide +kernel
theorem ck_200 : bm_chk mt ct_200d ct_200 3000 = true := by decide +kernel
theorem ck_201_e : bm_ce mt ct_201d ct_201 3000 = true := by decide +kernel
theorem ck_201 : bm_chk mt ct_201d ct_201 3000 = true := bm_join ck_201_e (fun j hj => by
  have hj : j < 0 := hj
  match j, hj with
  | j + 0, hj => exact absurd hj (by omega))
theorem ck_202 : bm_chk mt ct_202d ct_202 3000 = true := by decide +kernel
theorem ck_203 : bm_chk mt ct_203d ct_203 3000 = true := by decide +kernel
theorem ck_204 : bm_chk mt ct_204d ct_204 3000 = true := by decide +kernel
