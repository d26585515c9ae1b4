/-! ===== isCharacter, and what is known of 'type' beforehand ===== -/
set_option maxRecDepth 100000 in
set_option maxHeartbeats 4000000 in
theorem t_i1 (d : Nat) (σ : List AC) : ai_run x_no mt none 40 none d mm_87 0 (ai_args 0 [.inr (.inl (97, 122))]) [] σ = some (.inl (some (.inl 1)), σ, 0, 0) := rfl
set_option maxRecDepth 100000 in
set_option maxHeartbeats 4000000 in
theorem t_i2 (d : Nat) (σ : List AC) : ai_run x_no mt none 40 none d mm_87 0 (ai_args 0 [.inl 46]) [] σ = some (.inl (some (.inl 1)), σ, 0, 0) := rfl
set_option maxRecDepth 100000 in
set_option maxHeartbeats 4000000 in
theorem t_i3 (d : Nat) (σ : List AC) : ai_run x_no mt none 40 none d mm_87 0 (ai_args 0 [.inl 47]) [] σ = some (.inl (some (.inl 1)), σ, 0, 0) := rfl
set_option maxRecDepth 100000 in
set_option maxHeartbeats 4000000 in
theorem t_i4 (d : Nat) (σ : List AC) : ai_run x_no mt none 40 none d mm_87 0 (ai_args 0 [.inl 32]) [] σ = some (.inl (some (.inl 1)), σ, 0, 0) := rfl
set_option maxRecDepth 100000 in
set_option maxHeartbeats 4000000 in
theorem t_i5 (d : Nat) (σ : List AC) : ai_run x_no mt none 40 none d mm_87 0 (ai_args 0 [.inr (.inl (-2147483648, 31))]) [] σ = some (.inl (some (.inl 0)), σ, 0, 0) := rfl
set_option maxRecDepth 100000 in
set_option maxHeartbeats 4000000 in
theorem t_i6 (d : Nat) (σ : List AC) : ai_run x_no mt none 40 none d mm_87 0 (ai_args 0 [.inr (.inl (33, 45))]) [] σ = some (.inl (some (.inl 0)), σ, 0, 0) := rfl
set_option maxRecDepth 100000 in
set_option maxHeartbeats 4000000 in
theorem t_i7 (d : Nat) (σ : List AC) : ai_run x_no mt none 40 none d mm_87 0 (ai_args 0 [.inr (.inl (48, 96))]) [] σ = some (.inl (some (.inl 0)), σ, 0, 0) := rfl
set_option maxRecDepth 100000 in
set_option maxHeartbeats 4000000 in
theorem t_i8 (d : Nat) (σ : List AC) : ai_run x_no mt none 40 none d mm_87 0 (ai_args 0 [.inr (.inl (123, 2147483647))]) [] σ = some (.inl (some (.inl 0)), σ, 0, 0) := rfl
theorem m_in74 : mm_74 ∈ mt := List.mem_of_getElem? (i := 74) rfl
theorem m_in87 : mm_87 ∈ mt := List.mem_of_getElem? (i := 87) rfl
theorem m_is74 : ∀ M ∈ mt, m_ts M = m_ts mm_74 → M = mm_74 := by
  intro M hM
  simp only [mt, List.mem_cons, List.not_mem_nil, or_false] at hM
  rcases hM with rfl | rfl | rfl | rfl | rfl | rfl | rfl | rfl | rfl | rfl | rfl | rfl | rfl | rfl | rfl | rfl | rfl | rfl | rfl | rfl | rfl | rfl | rfl | rfl | rfl | rfl | rfl | rfl | rfl | rfl | rfl | rfl | rfl | rfl | rfl | rfl | rfl | rfl | rfl | rfl | rfl | rfl | rfl | rfl | rfl | rfl | rfl | rfl | rfl | rfl | rfl | rfl | rfl | rfl | rfl | rfl | rfl | rfl | rfl | rfl | rfl | rfl | rfl | rfl | rfl | rfl | rfl | rfl | rfl | rfl | rfl | rfl | rfl | rfl | rfl | rfl | rfl | rfl | rfl | rfl | rfl | rfl | rfl | rfl | rfl | rfl | rfl | rfl | rfl | rfl | rfl | rfl | rfl | rfl | rfl | rfl | rfl | rfl | rfl | rfl | rfl | rfl | rfl | rfl | rfl | rfl | rfl | rfl | rfl | rfl | rfl | rfl | rfl
  all_goals first | (intro _; rfl) | (intro h; exact absurd h (by decide))
theorem m_is87 : ∀ M ∈ mt, m_ts M = m_ts mm_87 → M = mm_87 := by
  intro M hM
  simp only [mt, List.mem_cons, List.not_mem_nil, or_false] at hM
  rcases hM with rfl | rfl | rfl | rfl | rfl | rfl | rfl | rfl | rfl | rfl | rfl | rfl | rfl | rfl | rfl | rfl | rfl | rfl | rfl | rfl | rfl | rfl | rfl | rfl | rfl | rfl | rfl | rfl | rfl | rfl | rfl | rfl | rfl | rfl | rfl | rfl | rfl | rfl | rfl | rfl | rfl | rfl | rfl | rfl | rfl | rfl | rfl | rfl | rfl | rfl | rfl | rfl | rfl | rfl | rfl | rfl | rfl | rfl | rfl | rfl | rfl | rfl | rfl | rfl | rfl | rfl | rfl | rfl | rfl | rfl | rfl | rfl | rfl | rfl | rfl | rfl | rfl | rfl | rfl | rfl | rfl | rfl | rfl | rfl | rfl | rfl | rfl | rfl | rfl | rfl | rfl | rfl | rfl | rfl | rfl | rfl | rfl | rfl | rfl | rfl | rfl | rfl | rfl | rfl | rfl | rfl | rfl | rfl | rfl | rfl | rfl | rfl | rfl
  all_goals first | (intro _; rfl) | (intro h; exact absurd h (by decide))
theorem t_one {l : Launch} {D : va_G} {E : AE} (htr : l.stackTraces = false) {k : Nat} (hk : 30 ≤ k ∧ k < 38) {a : AV} {r : Int32} (hrun : ∀ (d : Nat) (σ : List AC), ai_run x_no mt none 40 none d mm_87 0 (ai_args 0 [a]) [] σ = some (.inl (some (.inl r)), σ, 0, 0)) (hw : ([a].map ai_wd).sum ≤ m_L mm_87) (hv : ∀ ws : va_W, ai_V E ws a (.int (ai_xi E k))) (σ : List AC) (d : Nat) :
    ai_CT l D E mm_87 [.inr (.inr (.inr (.inr k)))] σ d (.inl (some (.inl r)), σ, 0, 0) := by
  have base := ai_run_ok (l := l) (D := D) (E := E) (mt := mt) (ext := x_no) (op := none) htr (fun k hk => by cases hk) m_Mk mt_ok2 (fun M as σ d r _ h => by cases h)
  have ct := ai_ct htr (base 40).1 (m_wk m_in87) (m_Mk _ m_in87) (hrun d σ) hw
  intro ws sz av hav
  match av, hav with
  | [], hav => exact hav.elim
  | _ :: _ :: _, ⟨_, hav⟩ => exact hav.elim
  | [v], ⟨h1, _⟩ =>
    have h1 : v = ai_xv E k := (ai_VX (by omega)).mp h1
    have h2 : ai_xv E k = .int (ai_xi E k) := by rw [ai_xv, if_neg (by omega), if_neg (by omega)]
    rw [h2] at h1
    subst h1
    exact ct ws sz _ ⟨hv ws, trivial⟩
theorem t_lit {x : Int32} {c : Int} {y : Int32} (h : x.toInt = c) (hy : y.toInt = c) : x = y := Int32.toInt_inj.mp (h.trans hy.symm)
theorem t_isc1 {l : Launch} {D : va_G} {E : AE} (htr : l.stackTraces = false) {k : Nat} (hk : 30 ≤ k ∧ k < 38) (hG : t_G (ai_xi E k)) (σ : List AC) (d : Nat) : ai_CT l D E mm_87 [.inr (.inr (.inr (.inr k)))] σ d (.inl (some (.inl 1)), σ, 0, 0) := by
  rcases hG with ⟨h1, h2⟩ | h | h | h
  · have h1 := Int32.le_iff_toInt_le.mp h1
    have h2 := Int32.le_iff_toInt_le.mp h2
    exact t_one htr hk t_i1 (by decide) (fun ws => ⟨_, rfl, h1, h2⟩) σ d
  · exact t_one htr hk t_i2 (by decide) (fun ws => by rw [h]; rfl) σ d
  · exact t_one htr hk t_i3 (by decide) (fun ws => by rw [h]; rfl) σ d
  · exact t_one htr hk t_i4 (by decide) (fun ws => by rw [h]; rfl) σ d
theorem t_isc0 {l : Launch} {D : va_G} {E : AE} (htr : l.stackTraces = false) {k : Nat} (hk : 30 ≤ k ∧ k < 38) (hG : ¬ t_G (ai_xi E k)) (σ : List AC) (d : Nat) : ai_CT l D E mm_87 [.inr (.inr (.inr (.inr k)))] σ d (.inl (some (.inl 0)), σ, 0, 0) := by
  generalize hx : ai_xi E k = x at hG
  have lo := Int32.le_toInt x
  have hi := Int32.toInt_lt x
  have n1 : ¬ (97 ≤ x.toInt ∧ x.toInt ≤ 122) := fun q => hG (Or.inl ⟨Int32.le_iff_toInt_le.mpr q.1, Int32.le_iff_toInt_le.mpr q.2⟩)
  have n2 : ¬ x.toInt = 46 := fun q => hG (Or.inr (Or.inl (t_lit q (by decide))))
  have n3 : ¬ x.toInt = 47 := fun q => hG (Or.inr (Or.inr (Or.inl (t_lit q (by decide)))))
  have n4 : ¬ x.toInt = 32 := fun q => hG (Or.inr (Or.inr (Or.inr (t_lit q (by decide)))))
  have lo : -2147483648 ≤ x.toInt := by simpa using lo
  have hi : x.toInt < 2147483648 := by simpa using hi
  by_cases c1 : x.toInt ≤ 31
  · exact t_one htr hk t_i5 (by decide) (fun ws => ⟨x, by rw [hx], lo, c1⟩) σ d
  · by_cases c2 : x.toInt ≤ 45
    · exact t_one htr hk t_i6 (by decide) (fun ws => ⟨x, by rw [hx], (by show (33 : Int) ≤ _; omega), c2⟩) σ d
    · by_cases c3 : x.toInt ≤ 96
      · exact t_one htr hk t_i7 (by decide) (fun ws => ⟨x, by rw [hx], (by show (48 : Int) ≤ _; omega), c3⟩) σ d
      · exact t_one htr hk t_i8 (by decide) (fun ws => ⟨x, by rw [hx], (by show (123 : Int) ≤ _; omega), (by show _ ≤ (2147483647 : Int); omega)⟩) σ d
def x_t74 (n jb : Nat) (as : List AV) (σ : List AC) : Option AR := if ai_eqL as [.inr (.inr (.inr (.inr 1))), .inl (nI n)] = true then some (.inl (some (.inl (if jb < n then 0 else 1))), σ, 0, 0) else none
def x_t87 (n jb : Nat) (as : List AV) (σ : List AC) : Option AR := match as with
  | [.inr (.inr (.inr (.inr k)))] => if 30 ≤ k ∧ k < 38 then (if k - 30 < jb then some (.inl (some (.inl 1)), σ, 0, 0) else if k - 30 = jb ∧ jb < n then some (.inl (some (.inl 0)), σ, 0, 0) else none) else none
  | _ => none
def x_ty (n jb : Nat) (d : Nat) (M : AM) (as : List AV) (σ : List AC) : Option AR :=
  ai_or (x_lx d M as σ) (if m_ts M = m_ts mm_74 then x_t74 n jb as σ else if m_ts M = m_ts mm_87 then x_t87 n jb as σ else none)
theorem t_xi {E : AE} {k : Nat} (hk : 30 ≤ k ∧ k < 38) : ai_xi E k = t_c (ai_w0 E) (k - 30) := by
  unfold ai_xi
  rw [if_neg (by omega), if_neg (by omega), if_neg (by omega)]
  rfl
theorem x_ty_ok {l : Launch} {D : va_G} {E : AE} (htr : l.stackTraces = false) {n jb : Nat} (hn : n ≤ 8) (hjb : jb ≤ n) (hg : ∀ k, k < jb → t_G (t_c (ai_w0 E) k)) (hbad : jb < n → ¬ t_G (t_c (ai_w0 E) jb)) : ∀ (M : AM) (as : List AV) (σ : List AC) (d : Nat) (r : AR), M ∈ mt → x_ty n jb d M as σ = some r → ai_CT l D E M as σ d r ∧ ∀ n, r.1 = .inr n → n < 5 := by
  intro M as σ d r hM h
  have h0 := ai_or_ok (show ai_or (x_lx d M as σ) (if m_ts M = m_ts mm_74 then x_t74 n jb as σ else if m_ts M = m_ts mm_87 then x_t87 n jb as σ else none) = some r from h)
  clear h
  rcases h0 with h | h
  · exact x_lx_ok htr M as σ d r hM h
  split at h
  · next hts =>
    obtain rfl := m_is74 M hM hts
    unfold x_t74 at h
    split at h
    · next he =>
      cases h
      obtain rfl := ai_eqL_ok he
      exact ⟨t_ats hn hjb hg hbad σ d, fun n hn => by cases hn⟩
    · cases h
  · split at h
    · next hts =>
      obtain rfl := m_is87 M hM hts
      unfold x_t87 at h
      split at h
      · next k =>
        split at h
        · next hk =>
          split at h
          · next hlt =>
            cases h
            exact ⟨t_isc1 htr hk (by rw [t_xi hk]; exact hg _ hlt) σ d, fun n hn => by cases hn⟩
          · split at h
            · next he =>
              cases h
              exact ⟨t_isc0 htr hk (by rw [t_xi hk, he.1]; exact hbad he.2) σ d, fun n hn => by cases hn⟩
            · cases h
        · cases h
      · cases h
    · cases h
def l_ty (n : Nat) : Bool := (List.range (n + 1)).all (fun jb => l_ok (l_go (x_ty n jb) (some 9) 4 (l_scf (.inr (.inr (.inr (.inr 41)))) (.inr (.inr (.inr (.inr 42)))) (.inl (nI n)))))
theorem t_first (P : Nat → Prop) : ∀ n : Nat, ∃ j, j ≤ n ∧ (∀ k, k < j → P k) ∧ (j < n → ¬ P j)
  | 0 => ⟨0, Nat.le_refl _, (fun k h => absurd h (Nat.not_lt_zero k)), (fun h => absurd h (Nat.lt_irrefl 0))⟩
  | n + 1 => by
    obtain ⟨j, h1, h2, h3⟩ := t_first P n
    rcases Nat.lt_or_ge j n with g | g
    · exact ⟨j, by omega, h2, fun _ => h3 g⟩
    · have e : j = n := by omega
      subst e
      by_cases hp : P j
      · refine ⟨j + 1, Nat.le_refl _, fun k hk => ?_, fun h => absurd h (Nat.lt_irrefl _)⟩
        rcases Nat.lt_or_ge k j with q | q
        · exact h2 k q
        · rw [show k = j by omega]; exact hp
      · exact ⟨j, by omega, h2, fun _ => hp⟩
