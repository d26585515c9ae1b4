/-! ===== a contract's check in pieces ===== -/
def bm_ce (mt : List AM) (cts : List BT) (T : BT) (fuel : Nat) : Bool := match mt[t_mi T]? with
  | some M => decide (((t_as T).map bv_wd).sum ≤ m_L M) && bm_run mt cts T M none fuel true 0 (b_args 0 (t_as T)) [] (t_s T) (li_c (t_mc T : Int))
  | none => false
def bm_h1 (mt : List AM) (cts : List BT) (T : BT) (M : AM) (fuel : Nat) (h : BH) : Bool := bs_ge h.2.2.1 h.2.2.2.1 && (bs_ge h.2.2.1 h.2.2.2.2.1 && (bm_spl h).all (fun s => bm_run mt cts T M (some h.2.2.2.1) fuel true h.1 h.2.1 [] s h.2.2.2.2.1))
def bm_ch (mt : List AM) (cts : List BT) (T : BT) (fuel j : Nat) : Bool := match mt[t_mi T]?, (t_hs T)[j]? with
  | some M, some h => bm_h1 mt cts T M fuel h
  | _, _ => false
theorem bm_join {mt : List AM} {cts : List BT} {T : BT} {fuel : Nat} (h1 : bm_ce mt cts T fuel = true) (h2 : ∀ j, j < (t_hs T).length → bm_ch mt cts T fuel j = true) : bm_chk mt cts T fuel = true := by
  unfold bm_ce at h1
  unfold bm_chk
  split at h1
  · next M hM =>
    rw [Bool.and_eq_true] at h1
    rw [hM]
    dsimp only
    rw [Bool.and_eq_true, Bool.and_eq_true]
    refine ⟨h1.1, h1.2, List.all_eq_true.mpr (fun h hh => ?_)⟩
    obtain ⟨j, hj, e⟩ := List.getElem_of_mem hh
    have h3 := h2 j hj
    unfold bm_ch at h3
    rw [hM, List.getElem?_eq_getElem hj, e] at h3
    exact h3
  · cases h1
theorem bm_lawj {mt : List AM} {cts : List BT} {T : BT} {M : AM} {fuel : Nat} (h : (t_hs T).all (bm_h1 mt cts T M fuel) = true) : ∀ h ∈ t_hs T, bs_ge h.2.2.1 h.2.2.2.1 = true ∧ bs_ge h.2.2.1 h.2.2.2.2.1 = true ∧ ∀ s ∈ bm_spl h, bm_run mt cts T M (some h.2.2.2.1) fuel true h.1 h.2.1 [] s h.2.2.2.2.1 = true := by
  intro q hq
  have h1 := List.all_eq_true.mp h q hq
  unfold bm_h1 at h1
  rw [Bool.and_eq_true, Bool.and_eq_true] at h1
  exact ⟨h1.1, h1.2.1, fun s hs => List.all_eq_true.mp h1.2.2 s hs⟩
