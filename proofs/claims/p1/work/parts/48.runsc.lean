set_option maxRecDepth 100000 in
theorem l_15 : l_all x_lx 15 (some 4) (some 4) (some 1) = true := by decide +kernel
