set_option maxRecDepth 100000 in
theorem l_13_0 : (l_S (some 3)).all (fun a2 => (l_S none).all (fun a3 => l_ok (l_go x_lx (some (nI 13)) 4 (l_scf (.inr (.inl (-2147483648, -1))) a2 a3)))) = true := by decide +kernel
set_option maxRecDepth 100000 in
theorem l_13_1 : (l_S (some 3)).all (fun a2 => (l_S none).all (fun a3 => l_ok (l_go x_lx (some (nI 13)) 4 (l_scf (.inl (nI 0)) a2 a3)))) = true := by decide +kernel
set_option maxRecDepth 100000 in
theorem l_13_2 : (l_S (some 3)).all (fun a2 => (l_S none).all (fun a3 => l_ok (l_go x_lx (some (nI 13)) 4 (l_scf (.inl (nI 1)) a2 a3)))) = true := by decide +kernel
set_option maxRecDepth 100000 in
theorem l_13_3 : (l_S (some 3)).all (fun a2 => (l_S none).all (fun a3 => l_ok (l_go x_lx (some (nI 13)) 4 (l_scf (.inl (nI 2)) a2 a3)))) = true := by decide +kernel
set_option maxRecDepth 100000 in
theorem l_13_4 : (l_S (some 3)).all (fun a2 => (l_S none).all (fun a3 => l_ok (l_go x_lx (some (nI 13)) 4 (l_scf (.inl (nI 3)) a2 a3)))) = true := by decide +kernel
set_option maxRecDepth 100000 in
theorem l_13_5 : (l_S (some 3)).all (fun a2 => (l_S none).all (fun a3 => l_ok (l_go x_lx (some (nI 13)) 4 (l_scf (.inr (.inl (((4 : Nat) : Int), 2147483647))) a2 a3)))) = true := by decide +kernel
theorem l_13 : l_all x_lx 13 (some 4) (some 3) none = true := al_c l_13_0 (al_c l_13_1 (al_c l_13_2 (al_c l_13_3 (al_c l_13_4 (al_c l_13_5 (rfl))))))
