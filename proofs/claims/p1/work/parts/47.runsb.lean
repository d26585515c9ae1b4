theorem al_c {f : AV → Bool} {a : AV} {l : List AV} (h : f a = true) (k : l.all f = true) : (a :: l).all f = true := by rw [List.all_cons, h, k]; rfl
set_option maxRecDepth 100000 in
theorem l_12_0 : (l_S (some 1)).all (fun a2 => (l_S none).all (fun a3 => l_ok (l_go x_lx (some (nI 12)) 4 (l_scf (.inr (.inl (-2147483648, -1))) a2 a3)))) = true := by decide +kernel
set_option maxRecDepth 100000 in
theorem l_12_1 : (l_S (some 1)).all (fun a2 => (l_S none).all (fun a3 => l_ok (l_go x_lx (some (nI 12)) 4 (l_scf (.inl (nI 0)) a2 a3)))) = true := by decide +kernel
set_option maxRecDepth 100000 in
theorem l_12_2 : (l_S (some 1)).all (fun a2 => (l_S none).all (fun a3 => l_ok (l_go x_lx (some (nI 12)) 4 (l_scf (.inl (nI 1)) a2 a3)))) = true := by decide +kernel
set_option maxRecDepth 100000 in
theorem l_12_3 : (l_S (some 1)).all (fun a2 => (l_S none).all (fun a3 => l_ok (l_go x_lx (some (nI 12)) 4 (l_scf (.inl (nI 2)) a2 a3)))) = true := by decide +kernel
set_option maxRecDepth 100000 in
theorem l_12_4 : (l_S (some 1)).all (fun a2 => (l_S none).all (fun a3 => l_ok (l_go x_lx (some (nI 12)) 4 (l_scf (.inl (nI 3)) a2 a3)))) = true := by decide +kernel
set_option maxRecDepth 100000 in
theorem l_12_5 : (l_S (some 1)).all (fun a2 => (l_S none).all (fun a3 => l_ok (l_go x_lx (some (nI 12)) 4 (l_scf (.inr (.inl (((4 : Nat) : Int), 2147483647))) a2 a3)))) = true := by decide +kernel
theorem l_12 : l_all x_lx 12 (some 4) (some 1) none = true := al_c l_12_0 (al_c l_12_1 (al_c l_12_2 (al_c l_12_3 (al_c l_12_4 (al_c l_12_5 (rfl))))))
set_option maxRecDepth 100000 in
theorem l_14_0 : (l_S none).all (fun a2 => (l_S none).all (fun a3 => l_ok (l_go x_lx (some (nI 14)) 4 (l_scf (.inr (.inl (-2147483648, -1))) a2 a3)))) = true := by decide +kernel
set_option maxRecDepth 100000 in
theorem l_14_1 : (l_S none).all (fun a2 => (l_S none).all (fun a3 => l_ok (l_go x_lx (some (nI 14)) 4 (l_scf (.inl (nI 0)) a2 a3)))) = true := by decide +kernel
set_option maxRecDepth 100000 in
theorem l_14_2 : (l_S none).all (fun a2 => (l_S none).all (fun a3 => l_ok (l_go x_lx (some (nI 14)) 4 (l_scf (.inl (nI 1)) a2 a3)))) = true := by decide +kernel
set_option maxRecDepth 100000 in
theorem l_14_3 : (l_S none).all (fun a2 => (l_S none).all (fun a3 => l_ok (l_go x_lx (some (nI 14)) 4 (l_scf (.inl (nI 2)) a2 a3)))) = true := by decide +kernel
set_option maxRecDepth 100000 in
theorem l_14_4 : (l_S none).all (fun a2 => (l_S none).all (fun a3 => l_ok (l_go x_lx (some (nI 14)) 4 (l_scf (.inl (nI 3)) a2 a3)))) = true := by decide +kernel
set_option maxRecDepth 100000 in
theorem l_14_5 : (l_S none).all (fun a2 => (l_S none).all (fun a3 => l_ok (l_go x_lx (some (nI 14)) 4 (l_scf (.inr (.inl (((4 : Nat) : Int), 2147483647))) a2 a3)))) = true := by decide +kernel
theorem l_14 : l_all x_lx 14 (some 4) none none = true := al_c l_14_0 (al_c l_14_1 (al_c l_14_2 (al_c l_14_3 (al_c l_14_4 (al_c l_14_5 (rfl))))))
