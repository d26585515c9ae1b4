set_option maxHeartbeats 4000000 in
/-- one step of the run is sound, if what it goes on with is -/
theorem ai_body_ok {mt : List AM} {l : Launch} {D : va_G} {E : AE} {ext : AXT} {op : Int32} {ih : AIH} (htr : l.stackTraces = false) (hop : E.2.1 &&& 15 = op) (hM1 : ∀ M ∈ mt, ai_Mk M) (hM2 : ∀ M ∈ mt, ai_mok2 mt M = true)
    (hext : ∀ (M : AM) (as : List AV) (σ : List AC) (d : Nat) (r : AR), M ∈ mt → ext M as σ = some r → ai_CT l D E M as σ d r ∧ ∀ n, r.1 = .inr n → n < 5) (hih5 : ∀ sc d M pc lo st σ (r : AR), M ∈ mt → ih sc d M pc lo st σ = some r → ∀ n, r.1 = .inr n → n < 5) (S : ai_SND mt l D E ih) :
    ai_SND mt l D E (ai_body ext mt op ih) ∧ ∀ sc d M pc lo st σ (r : AR), M ∈ mt → ai_body ext mt op ih sc d M pc lo st σ = some r → ∀ n, r.1 = .inr n → n < 5 := by
  sorry
theorem ai_add_ok {c s : Nat} {x : Option AR} {r : AR} (h : ai_add c s x = some r) : ∃ y : AR, x = some y ∧ r.1 = y.1 ∧ r.2.1 = y.2.1 ∧ r.2.2.1 = c + y.2.2.1 ∧ r.2.2.2 = s + y.2.2.2 := by
  unfold ai_add at h
  split at h
  · next y => cases h; exact ⟨y, rfl, rfl, rfl, rfl, rfl⟩
  · cases h
