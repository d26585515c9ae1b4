set_option maxRecDepth 100000 in
theorem l_13 : l_all x_lx 13 (some 4) (some 3) none = true := by decide +kernel
set_option maxRecDepth 100000 in
theorem l_14 : l_all x_lx 14 (some 4) none none = true := by decide +kernel
