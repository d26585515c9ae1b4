set_option maxRecDepth 100000 in
theorem l_15_0_0 : (l_S (some 1)).all (fun a3 => l_ok (l_go x_lx (some (nI 15)) 4 (l_scf (.inr (.inl (-2147483648, -1))) (.inr (.inl (-2147483648, -1))) a3))) = true := by decide +kernel
set_option maxRecDepth 100000 in
theorem l_15_0_1 : (l_S (some 1)).all (fun a3 => l_ok (l_go x_lx (some (nI 15)) 4 (l_scf (.inr (.inl (-2147483648, -1))) (.inl (nI 0)) a3))) = true := by decide +kernel
set_option maxRecDepth 100000 in
theorem l_15_0_2 : (l_S (some 1)).all (fun a3 => l_ok (l_go x_lx (some (nI 15)) 4 (l_scf (.inr (.inl (-2147483648, -1))) (.inl (nI 1)) a3))) = true := by decide +kernel
set_option maxRecDepth 100000 in
theorem l_15_0_3 : (l_S (some 1)).all (fun a3 => l_ok (l_go x_lx (some (nI 15)) 4 (l_scf (.inr (.inl (-2147483648, -1))) (.inl (nI 2)) a3))) = true := by decide +kernel
set_option maxRecDepth 100000 in
theorem l_15_0_4 : (l_S (some 1)).all (fun a3 => l_ok (l_go x_lx (some (nI 15)) 4 (l_scf (.inr (.inl (-2147483648, -1))) (.inl (nI 3)) a3))) = true := by decide +kernel
set_option maxRecDepth 100000 in
theorem l_15_0_5 : (l_S (some 1)).all (fun a3 => l_ok (l_go x_lx (some (nI 15)) 4 (l_scf (.inr (.inl (-2147483648, -1))) (.inr (.inl (((4 : Nat) : Int), 2147483647))) a3))) = true := by decide +kernel
theorem l_15_0 : (l_S (some 4)).all (fun a2 => (l_S (some 1)).all (fun a3 => l_ok (l_go x_lx (some (nI 15)) 4 (l_scf (.inr (.inl (-2147483648, -1))) a2 a3)))) = true := al_c l_15_0_0 (al_c l_15_0_1 (al_c l_15_0_2 (al_c l_15_0_3 (al_c l_15_0_4 (al_c l_15_0_5 (rfl))))))
set_option maxRecDepth 100000 in
theorem l_15_1_0 : (l_S (some 1)).all (fun a3 => l_ok (l_go x_lx (some (nI 15)) 4 (l_scf (.inl (nI 0)) (.inr (.inl (-2147483648, -1))) a3))) = true := by decide +kernel
set_option maxRecDepth 100000 in
theorem l_15_1_1 : (l_S (some 1)).all (fun a3 => l_ok (l_go x_lx (some (nI 15)) 4 (l_scf (.inl (nI 0)) (.inl (nI 0)) a3))) = true := by decide +kernel
set_option maxRecDepth 100000 in
theorem l_15_1_2 : (l_S (some 1)).all (fun a3 => l_ok (l_go x_lx (some (nI 15)) 4 (l_scf (.inl (nI 0)) (.inl (nI 1)) a3))) = true := by decide +kernel
set_option maxRecDepth 100000 in
theorem l_15_1_3 : (l_S (some 1)).all (fun a3 => l_ok (l_go x_lx (some (nI 15)) 4 (l_scf (.inl (nI 0)) (.inl (nI 2)) a3))) = true := by decide +kernel
set_option maxRecDepth 100000 in
theorem l_15_1_4 : (l_S (some 1)).all (fun a3 => l_ok (l_go x_lx (some (nI 15)) 4 (l_scf (.inl (nI 0)) (.inl (nI 3)) a3))) = true := by decide +kernel
set_option maxRecDepth 100000 in
theorem l_15_1_5 : (l_S (some 1)).all (fun a3 => l_ok (l_go x_lx (some (nI 15)) 4 (l_scf (.inl (nI 0)) (.inr (.inl (((4 : Nat) : Int), 2147483647))) a3))) = true := by decide +kernel
theorem l_15_1 : (l_S (some 4)).all (fun a2 => (l_S (some 1)).all (fun a3 => l_ok (l_go x_lx (some (nI 15)) 4 (l_scf (.inl (nI 0)) a2 a3)))) = true := al_c l_15_1_0 (al_c l_15_1_1 (al_c l_15_1_2 (al_c l_15_1_3 (al_c l_15_1_4 (al_c l_15_1_5 (rfl))))))
set_option maxRecDepth 100000 in
theorem l_15_2_0 : (l_S (some 1)).all (fun a3 => l_ok (l_go x_lx (some (nI 15)) 4 (l_scf (.inl (nI 1)) (.inr (.inl (-2147483648, -1))) a3))) = true := by decide +kernel
set_option maxRecDepth 100000 in
theorem l_15_2_1 : (l_S (some 1)).all (fun a3 => l_ok (l_go x_lx (some (nI 15)) 4 (l_scf (.inl (nI 1)) (.inl (nI 0)) a3))) = true := by decide +kernel
set_option maxRecDepth 100000 in
theorem l_15_2_2 : (l_S (some 1)).all (fun a3 => l_ok (l_go x_lx (some (nI 15)) 4 (l_scf (.inl (nI 1)) (.inl (nI 1)) a3))) = true := by decide +kernel
set_option maxRecDepth 100000 in
theorem l_15_2_3 : (l_S (some 1)).all (fun a3 => l_ok (l_go x_lx (some (nI 15)) 4 (l_scf (.inl (nI 1)) (.inl (nI 2)) a3))) = true := by decide +kernel
set_option maxRecDepth 100000 in
theorem l_15_2_4 : (l_S (some 1)).all (fun a3 => l_ok (l_go x_lx (some (nI 15)) 4 (l_scf (.inl (nI 1)) (.inl (nI 3)) a3))) = true := by decide +kernel
set_option maxRecDepth 100000 in
theorem l_15_2_5 : (l_S (some 1)).all (fun a3 => l_ok (l_go x_lx (some (nI 15)) 4 (l_scf (.inl (nI 1)) (.inr (.inl (((4 : Nat) : Int), 2147483647))) a3))) = true := by decide +kernel
theorem l_15_2 : (l_S (some 4)).all (fun a2 => (l_S (some 1)).all (fun a3 => l_ok (l_go x_lx (some (nI 15)) 4 (l_scf (.inl (nI 1)) a2 a3)))) = true := al_c l_15_2_0 (al_c l_15_2_1 (al_c l_15_2_2 (al_c l_15_2_3 (al_c l_15_2_4 (al_c l_15_2_5 (rfl))))))
set_option maxRecDepth 100000 in
theorem l_15_3_0 : (l_S (some 1)).all (fun a3 => l_ok (l_go x_lx (some (nI 15)) 4 (l_scf (.inl (nI 2)) (.inr (.inl (-2147483648, -1))) a3))) = true := by decide +kernel
set_option maxRecDepth 100000 in
theorem l_15_3_1 : (l_S (some 1)).all (fun a3 => l_ok (l_go x_lx (some (nI 15)) 4 (l_scf (.inl (nI 2)) (.inl (nI 0)) a3))) = true := by decide +kernel
set_option maxRecDepth 100000 in
theorem l_15_3_2 : (l_S (some 1)).all (fun a3 => l_ok (l_go x_lx (some (nI 15)) 4 (l_scf (.inl (nI 2)) (.inl (nI 1)) a3))) = true := by decide +kernel
set_option maxRecDepth 100000 in
theorem l_15_3_3 : (l_S (some 1)).all (fun a3 => l_ok (l_go x_lx (some (nI 15)) 4 (l_scf (.inl (nI 2)) (.inl (nI 2)) a3))) = true := by decide +kernel
set_option maxRecDepth 100000 in
theorem l_15_3_4 : (l_S (some 1)).all (fun a3 => l_ok (l_go x_lx (some (nI 15)) 4 (l_scf (.inl (nI 2)) (.inl (nI 3)) a3))) = true := by decide +kernel
set_option maxRecDepth 100000 in
theorem l_15_3_5 : (l_S (some 1)).all (fun a3 => l_ok (l_go x_lx (some (nI 15)) 4 (l_scf (.inl (nI 2)) (.inr (.inl (((4 : Nat) : Int), 2147483647))) a3))) = true := by decide +kernel
theorem l_15_3 : (l_S (some 4)).all (fun a2 => (l_S (some 1)).all (fun a3 => l_ok (l_go x_lx (some (nI 15)) 4 (l_scf (.inl (nI 2)) a2 a3)))) = true := al_c l_15_3_0 (al_c l_15_3_1 (al_c l_15_3_2 (al_c l_15_3_3 (al_c l_15_3_4 (al_c l_15_3_5 (rfl))))))
set_option maxRecDepth 100000 in
theorem l_15_4_0 : (l_S (some 1)).all (fun a3 => l_ok (l_go x_lx (some (nI 15)) 4 (l_scf (.inl (nI 3)) (.inr (.inl (-2147483648, -1))) a3))) = true := by decide +kernel
set_option maxRecDepth 100000 in
theorem l_15_4_1 : (l_S (some 1)).all (fun a3 => l_ok (l_go x_lx (some (nI 15)) 4 (l_scf (.inl (nI 3)) (.inl (nI 0)) a3))) = true := by decide +kernel
set_option maxRecDepth 100000 in
theorem l_15_4_2 : (l_S (some 1)).all (fun a3 => l_ok (l_go x_lx (some (nI 15)) 4 (l_scf (.inl (nI 3)) (.inl (nI 1)) a3))) = true := by decide +kernel
set_option maxRecDepth 100000 in
theorem l_15_4_3 : (l_S (some 1)).all (fun a3 => l_ok (l_go x_lx (some (nI 15)) 4 (l_scf (.inl (nI 3)) (.inl (nI 2)) a3))) = true := by decide +kernel
set_option maxRecDepth 100000 in
theorem l_15_4_4 : (l_S (some 1)).all (fun a3 => l_ok (l_go x_lx (some (nI 15)) 4 (l_scf (.inl (nI 3)) (.inl (nI 3)) a3))) = true := by decide +kernel
set_option maxRecDepth 100000 in
theorem l_15_4_5 : (l_S (some 1)).all (fun a3 => l_ok (l_go x_lx (some (nI 15)) 4 (l_scf (.inl (nI 3)) (.inr (.inl (((4 : Nat) : Int), 2147483647))) a3))) = true := by decide +kernel
theorem l_15_4 : (l_S (some 4)).all (fun a2 => (l_S (some 1)).all (fun a3 => l_ok (l_go x_lx (some (nI 15)) 4 (l_scf (.inl (nI 3)) a2 a3)))) = true := al_c l_15_4_0 (al_c l_15_4_1 (al_c l_15_4_2 (al_c l_15_4_3 (al_c l_15_4_4 (al_c l_15_4_5 (rfl))))))
set_option maxRecDepth 100000 in
theorem l_15_5_0 : (l_S (some 1)).all (fun a3 => l_ok (l_go x_lx (some (nI 15)) 4 (l_scf (.inr (.inl (((4 : Nat) : Int), 2147483647))) (.inr (.inl (-2147483648, -1))) a3))) = true := by decide +kernel
set_option maxRecDepth 100000 in
theorem l_15_5_1 : (l_S (some 1)).all (fun a3 => l_ok (l_go x_lx (some (nI 15)) 4 (l_scf (.inr (.inl (((4 : Nat) : Int), 2147483647))) (.inl (nI 0)) a3))) = true := by decide +kernel
set_option maxRecDepth 100000 in
theorem l_15_5_2 : (l_S (some 1)).all (fun a3 => l_ok (l_go x_lx (some (nI 15)) 4 (l_scf (.inr (.inl (((4 : Nat) : Int), 2147483647))) (.inl (nI 1)) a3))) = true := by decide +kernel
set_option maxRecDepth 100000 in
theorem l_15_5_3 : (l_S (some 1)).all (fun a3 => l_ok (l_go x_lx (some (nI 15)) 4 (l_scf (.inr (.inl (((4 : Nat) : Int), 2147483647))) (.inl (nI 2)) a3))) = true := by decide +kernel
set_option maxRecDepth 100000 in
theorem l_15_5_4 : (l_S (some 1)).all (fun a3 => l_ok (l_go x_lx (some (nI 15)) 4 (l_scf (.inr (.inl (((4 : Nat) : Int), 2147483647))) (.inl (nI 3)) a3))) = true := by decide +kernel
set_option maxRecDepth 100000 in
theorem l_15_5_5 : (l_S (some 1)).all (fun a3 => l_ok (l_go x_lx (some (nI 15)) 4 (l_scf (.inr (.inl (((4 : Nat) : Int), 2147483647))) (.inr (.inl (((4 : Nat) : Int), 2147483647))) a3))) = true := by decide +kernel
theorem l_15_5 : (l_S (some 4)).all (fun a2 => (l_S (some 1)).all (fun a3 => l_ok (l_go x_lx (some (nI 15)) 4 (l_scf (.inr (.inl (((4 : Nat) : Int), 2147483647))) a2 a3)))) = true := al_c l_15_5_0 (al_c l_15_5_1 (al_c l_15_5_2 (al_c l_15_5_3 (al_c l_15_5_4 (al_c l_15_5_5 (rfl))))))
theorem l_15 : l_all x_lx 15 (some 4) (some 4) (some 1) = true := al_c l_15_0 (al_c l_15_1 (al_c l_15_2 (al_c l_15_3 (al_c l_15_4 (al_c l_15_5 (rfl))))))
