set_option maxRecDepth 100000 in
theorem l_9a : ([.inr (.inl (-2147483648, -1)), .inl 0, .inr (.inl (9, 2147483647))] : List AV).all (fun a => l_ok (l_go x_lx (some 9) 4 (l_scf ai_top ai_top a))) = true := by decide +kernel
set_option maxRecDepth 100000 in
theorem l_9_1 : l_ty 1 = true := by decide +kernel
set_option maxRecDepth 100000 in
theorem l_9_2 : l_ty 2 = true := by decide +kernel
set_option maxRecDepth 100000 in
theorem l_9_3 : l_ty 3 = true := by decide +kernel
set_option maxRecDepth 100000 in
theorem l_9_4 : l_ty 4 = true := by decide +kernel
set_option maxRecDepth 100000 in
theorem l_9_5 : l_ty 5 = true := by decide +kernel
set_option maxRecDepth 100000 in
theorem l_9_6 : l_ty 6 = true := by decide +kernel
set_option maxRecDepth 100000 in
theorem l_9_7 : l_ty 7 = true := by decide +kernel
set_option maxRecDepth 100000 in
theorem l_9_8 : l_ty 8 = true := by decide +kernel
