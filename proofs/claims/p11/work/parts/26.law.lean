theorem ck_law : (t_hs ct_law).all (bm_h1 mt ct_lawd ct_law mm_226 3000) = true := by decide +kernel
