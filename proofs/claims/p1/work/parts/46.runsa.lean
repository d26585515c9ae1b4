set_option maxRecDepth 100000 in
theorem l_n0 : l_ok (l_go x_lx none 0 (fun _ => ai_top)) = true := by decide +kernel
set_option maxRecDepth 100000 in
theorem l_n1 : l_ok (l_go x_lx none 1 (fun _ => ai_top)) = true := by decide +kernel
set_option maxRecDepth 100000 in
theorem l_n2 : l_ok (l_go x_lx none 2 (fun _ => ai_top)) = true := by decide +kernel
set_option maxRecDepth 100000 in
theorem l_n3 : l_ok (l_go x_lx none 3 (fun _ => ai_top)) = true := by decide +kernel
set_option maxRecDepth 100000 in
theorem l_0 : l_all x_lx 0 none none (some 9) = true := by decide +kernel
set_option maxRecDepth 100000 in
theorem l_1 : l_all x_lx 1 none none none = true := by decide +kernel
set_option maxRecDepth 100000 in
theorem l_2 : l_all x_lx 2 (some 1) none none = true := by decide +kernel
set_option maxRecDepth 100000 in
theorem l_3 : l_all x_lx 3 (some 1) none none = true := by decide +kernel
set_option maxRecDepth 100000 in
theorem l_4 : l_all x_lx 4 (some 1) none none = true := by decide +kernel
set_option maxRecDepth 100000 in
theorem l_5 : l_all x_lx 5 none none none = true := by decide +kernel
set_option maxRecDepth 100000 in
theorem l_6 : l_all x_lx 6 (some 1) (some 5) none = true := by decide +kernel
set_option maxRecDepth 100000 in
theorem l_7 : l_all x_lx 7 (some 1) (some 1) none = true := by decide +kernel
set_option maxRecDepth 100000 in
theorem l_8 : l_all x_lx 8 none none none = true := by decide +kernel
set_option maxRecDepth 100000 in
theorem l_10 : l_all x_lx 10 none none none = true := by decide +kernel
set_option maxRecDepth 100000 in
theorem l_11 : l_all x_lx 11 (some 4) none none = true := by decide +kernel
