/-! ===== the law: its runs, by the script's numbers ===== -/
def l_P (n : Nat) : List AV := .inr (.inl (-2147483648, -1)) :: ((List.range n).map (fun j => .inl (nI j)) ++ [.inr (.inl ((n : Int), 2147483647))])
def l_S (o : Option Nat) : List AV := match o with
  | some n => l_P n
  | none => [ai_top]
theorem l_cov (n : Nat) (x : Int32) : ∃ a ∈ l_P n, ∀ (E : AE) (ws : va_W), ai_V E ws a (.int x) := by
  have hlo := Int32.le_toInt x
  have hhi := Int32.toInt_lt x
  by_cases h : x < 0
  · refine ⟨_, List.mem_cons_self, fun E ws => ⟨x, rfl, ?_, ?_⟩⟩
    · simp at hlo ⊢; omega
    · have := Int32.lt_iff_toInt_lt.mp h
      simp at this ⊢; omega
  · obtain ⟨j, hj, rfl⟩ := nI_of h
    by_cases hn : j < n
    · exact ⟨.inl (nI j), List.mem_cons_of_mem _ (List.mem_append_left _ (List.mem_map.mpr ⟨j, List.mem_range.mpr hn, rfl⟩)), fun E ws => rfl⟩
    · refine ⟨_, List.mem_cons_of_mem _ (List.mem_append_right _ (List.mem_singleton.mpr rfl)), fun E ws => ⟨nI j, rfl, ?_, ?_⟩⟩
      · rw [nI_toInt hj]; simp; omega
      · simp at hhi ⊢; omega
theorem l_covS (o : Option Nat) (x : Int32) : ∃ a ∈ l_S o, ∀ (E : AE) (ws : va_W), ai_V E ws a (.int x) := by
  match o with
  | some n => exact l_cov n x
  | none => exact ⟨ai_top, List.mem_singleton.mpr rfl, fun E ws => ai_top_ok x⟩
def l_scf (a1 a2 a3 : AV) : Nat → AV := fun j => if j = 0 then .inr (.inr (.inr (.inr 40))) else if j = 1 then a1 else if j = 2 then a2 else a3
def l_ok (r : Option AR) : Bool := match r with
  | some (.inl (some v), _, dc, ds) => ai_eqV v (.inl 1) && (decide (dc ≤ 600002) && decide (ds ≤ 7302232))
  | _ => false
def l_lo : ALo := [(0, .inr (.inr (.inr (.inr 5))))]
def l_go (ext : AXT) (op : Option Int32) (L : Nat) (f : Nat → AV) : Option AR := ai_run ext mt op 6000 (some (L, f)) 13 mm_113 0 l_lo [] []
def l_all (ext : AXT) (k : Nat) (o1 o2 o3 : Option Nat) : Bool := (l_S o1).all (fun a1 => (l_S o2).all (fun a2 => (l_S o3).all (fun a3 => l_ok (l_go ext (some (nI k)) 4 (l_scf a1 a2 a3)))))
/-! the two constructors, done once -/
def x_no : AXT := fun _ _ _ _ => none
def x_a0 : List AV := [.inr (.inr (.inr (.inl (some 0))))]
def x_w0 : List AC := [.inr (11, ai_fd 11 6)]
def x_a1 : List AV := [.inr (.inr (.inr (.inl (some 202))))]
def x_w1 : List AC := w_1 ++ [.inr (12, ai_fd 12 40)]
def x_is (w : List AC) (c s : Nat) (r : Option AR) : Bool := match r with
  | some (.inl none, w', dc, ds) => ai_eqW w' w && (decide (dc = c) && decide (ds = s))
  | _ => false
def x_lx (d : Nat) (M : AM) (as : List AV) (σ : List AC) : Option AR :=
  if m_ts M = m_ts mm_57 then (if d = 12 ∧ ai_eqL as x_a0 = true ∧ ai_eqW σ x_w0 = true then some (.inl none, w_1, 201, 2890) else none)
  else if m_ts M = m_ts mm_75 then (if d = 12 ∧ ai_eqL as x_a1 = true ∧ ai_eqW σ x_w1 = true then some (.inl none, w_1 ++ w_m, 26, 2456) else none)
  else none
set_option maxRecDepth 100000 in
theorem x_c57 : x_is w_1 201 2890 (ai_run x_no mt none 6000 none 12 mm_57 0 (ai_args 0 x_a0) [] x_w0) = true := by decide +kernel
set_option maxRecDepth 100000 in
theorem x_c75 : x_is (w_1 ++ w_m) 26 2456 (ai_run x_no mt none 6000 none 12 mm_75 0 (ai_args 0 x_a1) [] x_w1) = true := by decide +kernel
