/-! ===== from the law's entry ===== -/
theorem m_Mk : ∀ M ∈ mt, ai_Mk M := fun M hM => ai_Mk_of (mt_ok1 M hM)
theorem m_wk {M : AM} (hM : M ∈ mt) : ai_Wk mt M := ⟨mt_ok2 M hM, (m_Mk M hM).2.2.2.2.2.2.2.2.1⟩
theorem m_wkl : ai_Wk mt mm_113 := ⟨mt_o_113, rfl⟩
theorem m_in57 : mm_57 ∈ mt := List.mem_of_getElem? (i := 57) rfl
theorem m_in75 : mm_75 ∈ mt := List.mem_of_getElem? (i := 75) rfl
theorem m_is57 : ∀ M ∈ mt, m_ts M = m_ts mm_57 → M = mm_57 := by
  intro M hM
  simp only [mt, List.mem_cons, List.not_mem_nil, or_false] at hM
  rcases hM with rfl | rfl | rfl | rfl | rfl | rfl | rfl | rfl | rfl | rfl | rfl | rfl | rfl | rfl | rfl | rfl | rfl | rfl | rfl | rfl | rfl | rfl | rfl | rfl | rfl | rfl | rfl | rfl | rfl | rfl | rfl | rfl | rfl | rfl | rfl | rfl | rfl | rfl | rfl | rfl | rfl | rfl | rfl | rfl | rfl | rfl | rfl | rfl | rfl | rfl | rfl | rfl | rfl | rfl | rfl | rfl | rfl | rfl | rfl | rfl | rfl | rfl | rfl | rfl | rfl | rfl | rfl | rfl | rfl | rfl | rfl | rfl | rfl | rfl | rfl | rfl | rfl | rfl | rfl | rfl | rfl | rfl | rfl | rfl | rfl | rfl | rfl | rfl | rfl | rfl | rfl | rfl | rfl | rfl | rfl | rfl | rfl | rfl | rfl | rfl | rfl | rfl | rfl | rfl | rfl | rfl | rfl | rfl | rfl | rfl | rfl | rfl | rfl
  all_goals first | (intro _; rfl) | (intro h; exact absurd h (by decide))
theorem m_is75 : ∀ M ∈ mt, m_ts M = m_ts mm_75 → M = mm_75 := by
  intro M hM
  simp only [mt, List.mem_cons, List.not_mem_nil, or_false] at hM
  rcases hM with rfl | rfl | rfl | rfl | rfl | rfl | rfl | rfl | rfl | rfl | rfl | rfl | rfl | rfl | rfl | rfl | rfl | rfl | rfl | rfl | rfl | rfl | rfl | rfl | rfl | rfl | rfl | rfl | rfl | rfl | rfl | rfl | rfl | rfl | rfl | rfl | rfl | rfl | rfl | rfl | rfl | rfl | rfl | rfl | rfl | rfl | rfl | rfl | rfl | rfl | rfl | rfl | rfl | rfl | rfl | rfl | rfl | rfl | rfl | rfl | rfl | rfl | rfl | rfl | rfl | rfl | rfl | rfl | rfl | rfl | rfl | rfl | rfl | rfl | rfl | rfl | rfl | rfl | rfl | rfl | rfl | rfl | rfl | rfl | rfl | rfl | rfl | rfl | rfl | rfl | rfl | rfl | rfl | rfl | rfl | rfl | rfl | rfl | rfl | rfl | rfl | rfl | rfl | rfl | rfl | rfl | rfl | rfl | rfl | rfl | rfl | rfl | rfl
  all_goals first | (intro _; rfl) | (intro h; exact absurd h (by decide))
theorem x_is_ok {w : List AC} {c s : Nat} {r : Option AR} (h : x_is w c s r = true) : ∃ w', r = some (.inl none, w', c, s) ∧ ai_eqW w' w = true := by
  unfold x_is at h
  split at h
  · next w' dc ds =>
    simp only [Bool.and_eq_true, decide_eq_true_eq] at h
    obtain ⟨h1, rfl, rfl⟩ := h
    exact ⟨w', rfl, h1⟩
  · cases h
theorem x_lx_ok {l : Launch} {D : va_G} {E : AE} (htr : l.stackTraces = false) : ∀ (M : AM) (as : List AV) (σ : List AC) (d : Nat) (r : AR), M ∈ mt → x_lx d M as σ = some r → ai_CT l D E M as σ d r ∧ ∀ n, r.1 = .inr n → n < 5 := by
  intro M as σ d r hM h
  have base := ai_run_ok (l := l) (D := D) (E := E) (mt := mt) (ext := x_no) (op := none) htr (fun k hk => by cases hk) m_Mk mt_ok2 (fun M as σ d r _ h => by cases h)
  unfold x_lx at h
  split at h
  · next hts =>
    obtain rfl := m_is57 M hM hts
    split at h
    · next hc =>
      cases h
      obtain ⟨rfl, ha, hw⟩ := hc
      obtain rfl := ai_eqL_ok ha
      obtain ⟨w', e1, e2⟩ := x_is_ok x_c57
      exact ⟨ai_CT_eq (ai_ct htr (base 6000).1 (m_wk hM) (m_Mk _ hM) e1 (by decide)) hw e2, fun n hn => by cases hn⟩
    · cases h
  · split at h
    · next hts =>
      obtain rfl := m_is75 M hM hts
      split at h
      · next hc =>
        cases h
        obtain ⟨rfl, ha, hw⟩ := hc
        obtain rfl := ai_eqL_ok ha
        obtain ⟨w', e1, e2⟩ := x_is_ok x_c75
        exact ⟨ai_CT_eq (ai_ct htr (base 6000).1 (m_wk hM) (m_Mk _ hM) e1 (by decide)) hw e2, fun n hn => by cases hn⟩
      · cases h
    · cases h
theorem l_conv {p : Program} {l : Launch} {e : Env} {R : Room} {s : State} {m : MethodId} {args : Array Value} {below : List Frame} {meth : Method} {c : Code} {H : Heap} {locs : List Loc} {cells slots mc ms : Nat} {g : JFrame} {E : AE} {D : va_G} {σ : List AC} {ws0 : va_W} {A : Nat → Prop}
    (k : W p l e R s m args below meth c H locs cells slots (vx_MQ below (ai_Q E D (.inl (some (.inl 1))) σ ws0 A) (ai_X E D (.inl (some (.inl 1))) σ ws0 A) args s mc ms A) g) (hA : ∀ q, A q → s.heap.size ≤ q) (h1 : mc ≤ 600002) (h2 : ms ≤ 7302232) : W p l e R s m args below meth c H locs cells slots (lw_Z below args s) g := by
  intro T hT X
  obtain ⟨t, a1, o, b1, b2, hQ⟩ := k T hT X
  refine ⟨t, a1, o, b1, b2, ?_⟩
  rcases hQ with ⟨⟨ov, v, ws, ho, hv, hO, -⟩, L, hF, hL⟩ | ⟨q, -, En, ce, L, ⟨n, ws, ho, -⟩, -⟩
  · cases ho
    match v, hO with
    | none, hO => exact hO.elim
    | some x, hO =>
      have hO : x = .int 1 := hO
      subst hO
      exact ⟨hv, hF.1, hF.2.1, hF.2.2.weaken (fun x hx hlt => absurd (hA _ (hL x hx)) (Nat.not_le.mpr hlt)) h1 h2⟩
  · cases ho
theorem l_inst : vwCl.all (fun q => decide (Cond.instantiable q.1 q.2.2 ∈ lw_tbl)) = true := by decide +kernel
theorem l_nc : ∀ a, a < 5 → ∀ b, b < 5 → a ≠ b → Cond.not (.castable (ax_n a) (ax_n b)) ∈ flatC (Jvm.Cond.and given_1 narrow_1) := by decide +kernel
theorem l_sU : Cond.isRef (.static Bundle.tN "UNASSIGNED_STACK" Bundle.steD) ∈ flatC (Jvm.Cond.and given_1 narrow_1) := by decide +kernel
theorem l_sN : Cond.isRef (.static Bundle.tN "SUPPRESSED_SENTINEL" Bundle.listD) ∈ flatC (Jvm.Cond.and given_1 narrow_1) := by decide +kernel
theorem l_lU : Cond.laysStatic Bundle.tN "UNASSIGNED_STACK" Bundle.steD ∈ lw_tbl := by decide +kernel
theorem l_lN : Cond.laysStatic Bundle.tN "SUPPRESSED_SENTINEL" Bundle.listD ∈ lw_tbl := by decide +kernel
theorem l_iT : Cond.initialized Bundle.tN ∈ lw_tbl := by decide +kernel
theorem l_D {s : State} {args : Array Value} (hts : ∀ w ∈ lw_tbl, w.before args s = true) : ∃ D : va_G, va_K D vwCl [] s := by
  have h : ∀ k : Nat, ∃ x : ClassId × (Nat → Nat), ∀ q, vwCl[k]? = some q → u_Kn s q.1 q.2.1 q.2.2 x.1 x.2 := by
    intro k
    cases hk : vwCl[k]? with
    | none => exact ⟨(0, fun _ => 0), fun q hq => by cases hq⟩
    | some r =>
      obtain ⟨cC, iS, hK⟩ := u_known (C := r.1) (T := r.2.1) (N := r.2.2) (n := r.2.2) hts (ai_F_all k r hk).2.2 (hts _ (of_decide_eq_true (List.all_eq_true.mp l_inst r (List.mem_of_getElem? hk))))
      exact ⟨(cC, iS), fun q hq => by cases hq; exact hK⟩
  exact ⟨(fun k => (Classical.choose (h k)).1, fun k => (Classical.choose (h k)).2), (fun k q hq => Classical.choose_spec (h k) q hq), (fun k q hq => by cases hq)⟩
set_option maxHeartbeats 1000000 in
/-- a run of the law's that answers 1 -/
theorem l_start {p : Program} {e : Env} {s : State} {m : MethodId} {below : List Frame} {meth : Method} {c : Code} {l : Launch} (htr : l.stackTraces = false) {b L : Nat} {xs : Nat → Int32} (C0 : lw_At p s m meth c b L xs) (htab : c.exceptionTable.toList = []) {E : AE} (hE : E.1 = b) {ext : AXT} {op : Option Int32} (hop : ∀ k, op = some k → E.2.1 &&& 15 = k)
    (hext : ∀ (D : va_G) (M : AM) (as : List AV) (σ : List AC) (d : Nat) (r : AR), M ∈ mt → ext d M as σ = some r → ai_CT l D E M as σ d r ∧ ∀ n, r.1 = .inr n → n < 5)
    {f : Nat → AV} (hf : ∀ (j : Nat) (ws : va_W), j < L → ai_V E ws (f j) (.int (xs j))) (h : l_ok (l_go ext op L f) = true) :
    W p l e room_1 s m #[Value.ref b] below meth c s.heap [] 0 0 (lw_Z below #[Value.ref b] s) (entryFrame m ([Value.ref b] : List Value).toArray 7) := by
  obtain ⟨hx, hb, hr, hml, hown, hts, hX, hbl, hlocks, hgv⟩ := C0
  have hs := flat_of_before _ hgv
  obtain ⟨D, hK⟩ := l_D hts
  unfold l_ok at h
  split at h
  · next v σ' dc ds hrun =>
    simp only [Bool.and_eq_true, decide_eq_true_eq] at h
    obtain ⟨h1, h2, h3⟩ := h
    have h1 : v = .inl 1 := of_decide_eq_true h1
    subst h1
    have hA : ∀ q : Nat, s.heap.size ≤ q → (fun q : Nat => s.heap.size ≤ q) q := fun _ h => h
    have hbA : ¬ (fun q : Nat => s.heap.size ≤ q) b := Nat.not_le.mpr hbl
    have hnA : ∀ a : Nat, a < s.heap.size → ¬ (fun q : Nat => s.heap.size ≤ q) a := fun a h => Nat.not_le.mpr h
    have hG : ai_G D s := ⟨hK, fun C hC => va_AO.of (hts _ hC), fun w hw hk => va_Nw.of (ax_kw_on hk) (hts w hw), fun a b ha hb hn => va_Nc.of (hs _ (l_nc a ha b hb hn))⟩
    have hZ : ai_Z (fun q : Nat => s.heap.size ≤ q) s s.heap := ⟨vx_Zqof (hts _ l_lU) (hts _ l_iT) (hs _ l_sU) hnA, vx_Zqof (hts _ l_lN) (hts _ l_iT) (hs _ l_sN) hnA⟩
    have S := (ai_run_ok (l := l) (D := D) (E := E) (mt := mt) (ext := ext) (op := op) htr hop m_Mk mt_ok2 (hext D) 6000).1
    rw [lg_entry_eq]
    refine l_conv (S (some (L, f)) 13 mm_113 0 l_lo [] [] (.inl (some (.inl 1)), σ', dc, ds) m_wkl hrun p e room_1 s m _ below meth c [] (fun q : Nat => s.heap.size ≤ q) [] s.heap [] _ (lv_args 0 [.ref b]) [] 0 0 600002 7302232 ?_ ?_ hA hZ ai_Ext.rf ⟨rfl, (fun i e q h => by cases h)⟩ (fun k q h => by cases h) ⟨(fun i j p q h => by cases h), (fun k q h => by cases h)⟩ va_S.rf (lv_entry [.ref b] (Nat.le_of_ble_eq_true rfl)) ⟨⟨rfl, (ai_VX (by decide)).mpr (by rw [← hE]; rfl)⟩, trivial⟩ trivial (by decide) (by decide) (by dsimp only; omega) (by dsimp only; omega) (by decide) (by decide)) (fun q h => h) (Nat.le_refl _) (Nat.le_refl _)
    · exact ⟨hx, hb, hml, hown, hr, hlocks, (fun hk => by cases hk), htab, fun w hw _ => hts w hw, hG, htr⟩
    · intro q hq
      cases hq
      exact ⟨xs, by rw [hE]; exact hX, by rw [hE]; exact hbl, by rw [hE]; exact hbA, fun j ws hj => hf j ws hj⟩
  · cases h
