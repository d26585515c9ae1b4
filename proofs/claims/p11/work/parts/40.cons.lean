/-! ===== the two constructors, done once ===== -/
theorem mt_A : ∀ M ∈ mt, ai_Mk M := fun M hM => by
  obtain ⟨k1, k2, k3, k4, k5, k6, k7, k8, k9, k10, k11, k12, k13⟩ := mt_Mk M hM
  refine ⟨k1, k2, k3, k4, k5, k6, k7, k8, k9, k10, k11, fun hk => ?_⟩
  have h := mt_ok1 M hM
  unfold b_mok1 at h
  rw [Bool.or_eq_true] at h
  rcases h with h | h
  · exact (ai_Mk_of h).2.2.2.2.2.2.2.2.2.2.2 hk
  · unfold bj_mok at h
    simp only [Bool.and_eq_true, decide_eq_true_eq] at h
    obtain ⟨⟨-, h7⟩, -⟩ := h
    split at h7
    · simp only [Bool.and_eq_true, decide_eq_true_eq] at h7
      exact absurd (h7.2.symm.trans hk) (by decide)
    · cases h7
theorem b_mok2_A {M : AM} (h : b_mok2 mt M = true) : ai_mok2 mt M = true := List.all_eq_true.mpr (fun q hq => by
  have h2 := List.all_eq_true.mp h q hq
  unfold b_row at h2
  rw [Bool.and_eq_true, Bool.and_eq_true] at h2
  exact h2.1.1)
theorem mt_A2 : ∀ M ∈ mt, ai_mok2 mt M = true := fun M hM => b_mok2_A (mt_ok2 M hM)
theorem m_wk {M : AM} (hM : M ∈ mt) : ai_Wk mt M := ⟨mt_A2 M hM, (mt_A M hM).2.2.2.2.2.2.2.2.1⟩
def x_no : AXT := fun _ _ _ _ => none
def x_a0 : List AV := [.inr (.inr (.inr (.inl (some 0))))]
def x_w0 : List AC := [.inr (11, ai_fd 11 6)]
def x_a1 : List AV := [.inr (.inr (.inr (.inl (some 202))))]
def x_w1 : List AC := w_1 ++ [.inr (12, ai_fd 12 40)]
def x_is (w : List AC) (c s : Nat) (r : Option AR) : Bool := match r with
  | some (.inl none, w', dc, ds) => ai_eqW w' w && (decide (dc = c) && decide (ds = s))
  | _ => false
set_option maxRecDepth 100000 in
theorem x_cy : x_is w_1 201 2890 (ai_run x_no mt none 6000 none 12 mm_124 0 (ai_args 0 x_a0) [] x_w0) = true := by decide +kernel
set_option maxRecDepth 100000 in
theorem x_cm : x_is (w_1 ++ w_m) 26 2456 (ai_run x_no mt none 6000 none 12 mm_143 0 (ai_args 0 x_a1) [] x_w1) = true := by decide +kernel
theorem x_is_ok {w : List AC} {c s : Nat} {r : Option AR} (h : x_is w c s r = true) : ∃ w', r = some (.inl none, w', c, s) ∧ ai_eqW w' w = true := by
  unfold x_is at h
  split at h
  · next w' dc ds =>
    simp only [Bool.and_eq_true, decide_eq_true_eq] at h
    obtain ⟨h1, rfl, rfl⟩ := h
    exact ⟨w', rfl, h1⟩
  · cases h
theorem m_iny : mm_124 ∈ mt := List.mem_of_getElem? (i := 124) rfl
theorem m_inm : mm_143 ∈ mt := List.mem_of_getElem? (i := 143) rfl
/-- what a constructor is known to do -/
def x_lk (k : Nat) (as : List AV) (σ : List AC) : Option (List AC × Nat × Nat) :=
  if k = 124 then (if ai_eqL as x_a0 = true ∧ ai_eqW σ x_w0 = true then some (w_1, 201, 2890) else none)
  else if k = 143 then (if ai_eqL as x_a1 = true ∧ ai_eqW σ x_w1 = true then some (w_1 ++ w_m, 26, 2456) else none)
  else none
theorem x_lk_ok {l : Launch} {D : va_G} {E : AE} (htr : l.stackTraces = false) {k : Nat} {M : AM} {as : List AV} {σ : List AC} {r : List AC × Nat × Nat} (hM : mt[k]? = some M) (h : x_lk k as σ = some r) : ai_CT l D E M as σ 12 (.inl none, r.1, r.2.1, r.2.2) := by
  have base := ai_run_ok (l := l) (D := D) (E := E) (mt := mt) (ext := x_no) (op := none) htr (fun k hk => by cases hk) mt_A mt_A2 (fun M as σ d r _ h => by cases h)
  unfold x_lk at h
  split at h
  · next hk =>
    subst hk
    cases hM
    split at h
    · next hc =>
      cases h
      obtain ⟨ha, hw⟩ := hc
      obtain rfl := ai_eqL_ok ha
      obtain ⟨w', e1, e2⟩ := x_is_ok x_cy
      exact ai_CT_eq (ai_ct htr (base 6000).1 (m_wk m_iny) (mt_A _ m_iny) e1 (by decide)) hw e2
    · cases h
  · split at h
    · next hk =>
      subst hk
      cases hM
      split at h
      · next hc =>
        cases h
        obtain ⟨ha, hw⟩ := hc
        obtain rfl := ai_eqL_ok ha
        obtain ⟨w', e1, e2⟩ := x_is_ok x_cm
        exact ai_CT_eq (ai_ct htr (base 6000).1 (m_wk m_inm) (mt_A _ m_inm) e1 (by decide)) hw e2
      · cases h
    · cases h
