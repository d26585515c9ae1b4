/-! ===== the whole run ===== -/
section AMN
variable {mt : List AM} {l : Launch} {D : va_G} {E : AE}
variable {p : Program} {e : Env} {R : Room} {s : State} {m : MethodId} {args : Array Value} {below : List Frame} {meth : Method} {c : Code} {H : Heap} {locs : List Loc} {cells slots : Nat} {pc : Nat} {ls : Array Slot} {i : Instr} {len : Nat} {aux : List Nat} {ws ws0 : va_W} {st st' : List AV} {vs : List Value} {σ : List AC} {A : Nat → Prop} {lv : List (Nat × Value)} {mc ms : Nat}
theorem ai_end {t : State} (hW : ai_W E s σ ws) (hE : ai_Ext ws0 ws) (hP : va_P D vwCl ws H) (hD : va_D A ws) (hS : va_S A s.heap H locs) (ht : t.heap = H) (ha : s.vm.Alike t.vm) : ai_Ev E D σ ws0 A s t ws :=
  ⟨hW.moved ha, hE, by rw [ht]; exact hP, hD, hS.F ht⟩
set_option maxHeartbeats 1000000 in
theorem ai_ret_ok {M : AM} {ov : Option AV} (F : ai_Fr M D l p s m args meth c) (hW : ai_W E s σ ws) (hE : ai_Ext ws0 ws) (hP : va_P D vwCl ws H) (hD : va_D A ws) (hS : va_S A s.heap H locs) (hSt : ai_S E ws st vs) (hd : decode (m_cc M) pc = .ok (i, len)) (h : ai_ret M i len st = some ov) (hc : cells ≤ mc) (hs : slots ≤ ms) :
    W p l e R s m args below meth c H locs cells slots (vx_MQ below (ai_Q E D (.inl ov) σ ws0 A) (ai_X E D (.inl ov) σ ws0 A) args s mc ms A) (F0 m pc ls vs) := by
  obtain ⟨hx, hb, hml, hown, hr, hlocks, hini, htab, hT, hG, htr⟩ := F
  refine W.widen hc hs (vx_ret ?_)
  have fin : ∀ (v : Option Value), ai_O E ws ov v → ∀ t : State, t.heap = H → s.WarmedH t.vm → ai_Q E D (.inl ov) σ ws0 A args s (.returned v) t := fun v hv t ht hw => ⟨ov, v, ws, rfl, rfl, hv, ai_end hW hE hP hD hS ht hw.alike⟩
  unfold ai_ret at h
  split at h
  · next x =>
    match vs, hSt with
    | [], hSt => exact hSt.elim
    | _ :: _ :: _, ⟨_, hSt⟩ => exact hSt.elim
    | [v], ⟨hv, _⟩ =>
      split at h
      · next t hret =>
        split at h
        · next hcond =>
          cases h
          obtain ⟨n1, -⟩ := ai_fit_ok hcond.2 hv
          have hi : ∃ y : Int32, v = .int y := by
            rcases hcond.1 with rfl | rfl
            · exact ai_V_int (of_decide_eq_true hcond.2) hv
            · have h2 : (match ai_iv x with
                | some q => decide (0 ≤ q.1 ∧ q.2 ≤ 1)
                | none => false) = true := hcond.2
              split at h2
              · next q hq => obtain ⟨y, hy, -⟩ := ai_iv_ok hq hv; exact ⟨y, hy⟩
              · cases h2
          obtain ⟨y, rfl⟩ := hi
          exact W.zret hx hb (hr.trans hret) n1 (fin _ hv) hS.2.2 hd hlocks
        · cases h
      · cases h
  · next x =>
    match vs, hSt with
    | [], hSt => exact hSt.elim
    | _ :: _ :: _, ⟨_, hSt⟩ => exact hSt.elim
    | [v], ⟨hv, _⟩ =>
      split at h
      · next hcond =>
        cases h
        obtain ⟨y, rfl⟩ := ai_V_long hcond.2 hv
        exact W.lret hx hb (hr.trans hcond.1) (fin _ hv) hS.2.2 hd hlocks
      · cases h
  · next x =>
    match vs, hSt with
    | [], hSt => exact hSt.elim
    | _ :: _ :: _, ⟨_, hSt⟩ => exact hSt.elim
    | [v], ⟨hv, _⟩ =>
      split at h
      · next C hret =>
        split at h
        · next hcond =>
          cases h
          exact W.aret hx hb (hr.trans hret) (Or.inl ⟨C, rfl⟩) (ai_V_ref hcond hv) (fin _ hv) hS.2.2 hd hlocks
        · cases h
      · cases h
  · match vs, hSt with
    | _ :: _, hSt => exact hSt.elim
    | [], _ =>
      split at h
      · next hcond =>
        cases h
        exact W.vret hx hb (hr.trans hcond) (fin none trivial) hS.2.2 hd hlocks
      · cases h
  · cases h
set_option maxHeartbeats 1000000 in
theorem ai_th_ok {M : AM} {d n : Nat} (F : ai_Fr M D l p s m args meth c) (hZ : ai_Z A s s.heap) (hW : ai_W E s σ ws) (hE : ai_Ext ws0 ws) (hP : va_P D vwCl ws H) (hD : va_D A ws) (hS : va_S A s.heap H locs) (hl : lv_has ls (m_L M) lv) (hSt : ai_S E ws st vs) (hd : decode (m_cc M) pc = .ok (i, len)) (hck : ai_ck2 mt (m_own M) (m_cc M) (pc, i, len, aux) = true) (h : ai_th d M i len aux st = some n)
    (hfr : d ≤ R.frames) (hlo : 36 * d ≤ R.locals) (hc : cells + 1 ≤ mc) (hs : slots + 6 ≤ ms) (hRc : mc ≤ R.cells) (hRs : ms ≤ R.slots) :
    n < 5 ∧ W p l e R s m args below meth c H locs cells slots (vx_MQ below (ai_Q E D (.inr n) σ ws0 A) (ai_X E D (.inr n) σ ws0 A) args s mc ms A) (F0 m pc ls vs) := by
  obtain ⟨hx, hb, hml, hown, hr, hlocks, hini, htab, hT, hG, htr⟩ := F
  unfold ai_th at h
  split at h
  · next x n' t1 t2 ic z =>
    split at h
    · next hcond =>
      cases h
      have hck : ax_ck (m_own M) (m_cc M) pc x n t1 t2 ic z = true := hck
      unfold ax_ck at hck
      simp only [Bool.and_eq_true, decide_eq_true_eq] at hck
      obtain ⟨⟨⟨⟨⟨⟨c0, c1⟩, c2⟩, c3⟩, c4⟩, c5⟩, c7⟩ := hck
      have c6 := ax_all (own := m_own M) (ic := ic) c0 (ai_w_ok c7).1
      refine ⟨c0, ?_⟩
      have hk := hT _ (ai_w_ok c1).1 (ai_w_ok c1).2
      have hi := hT _ (ai_w_ok c2).1 (ai_w_ok c2).2
      have hcls : Bundle.fit (ax_n n) = true := by
        match n, c0 with
        | 0, _ => decide +kernel
        | 1, _ => decide +kernel
        | 2, _ => decide +kernel
        | 3, _ => decide +kernel
        | 4, _ => decide +kernel
      refine vx_throw0 (cls := ax_n n) (names := ax_up) hx hb htr hown hcls (by decide +kernel) hk hi (fun w hw => ?_) (fun w hw => ?_) hZ.1 hZ.2 hS (hl.1.trans hml.symm) hd c3 c4 c5 ?_ ?_ ?_ (by omega) (by omega) hlocks ?_ hS.2.2 hc hs
      · obtain ⟨g1, g2, g3⟩ := c6 w hw
        rcases g3 with g3 | g3
        · exact hT w g1 g3
        · exact va_Nw.use (ax_kw_on g3) (hG.2.2.1 w g1 g3)
      · rcases List.mem_cons.mp hw with rfl | hw
        · rfl
        · rcases List.mem_cons.mp hw with rfl | hw
          · rfl
          · exact (c6 w hw).2.1
      · intro y hy
        rw [htab, hcond.2.1] at hy
        cases hy
      · show 2 + 3 < R.frames
        omega
      · have := ai_S_sum hSt
        have h8 := hcond.2.2
        show _ + (13 * (2 + 1) + 42) ≤ R.locals
        omega
      · intro t ha h1 h2
        refine ⟨n, ws, rfl, rfl, hW.moved ha, hE, hP.kept (fun k q hk => h2 q.1 ((hP k q hk).lt)), hD, Nat.le_trans hS.1 h1, fun q g1 g2 => ?_⟩
        rw [h2 q (Nat.lt_of_lt_of_le g1 hS.1)]
        exact hS.2.1 q g1 g2
    · cases h
  · cases h
theorem ai_sc_ok {M : AM} {sc : Option (Nat × (Nat → AV))} (F : ai_Fr M D l p s m args meth c) (hsc : ai_Sc sc E A s) (hS : va_S A s.heap H locs) (hSt : ai_S E ws st vs) (hd : decode (m_cc M) pc = .ok (i, len)) (h : ai_sc sc i len st = some st') {Q : State → Prop}
    (k : ∀ vs' : List Value, ai_S E ws st' vs' → W p l e R s m args below meth c H locs cells slots Q (F0 m (pc + len) ls vs')) : W p l e R s m args below meth c H locs cells slots Q (F0 m pc ls vs) := by
  obtain ⟨hx, hb, hml, hown, hr, hlocks, hini, htab, hT, hG, htr⟩ := F
  unfold ai_sc at h
  split at h
  · next q j x r =>
    obtain ⟨xs, hX, hbl, hbA, hval⟩ := hsc q rfl
    match vs, hSt with
    | [], hSt => exact hSt.elim
    | [_], ⟨_, hSt⟩ => exact hSt.elim
    | vj :: v :: vs, ⟨hvj, hv, hSt2⟩ =>
      split at h
      · next hx5 =>
        subst hx5
        have hv : v = .ref (e_b E) := (ai_VX (by decide)).mp hv
        subst hv
        split at h
        · next kk hk =>
          cases h
          obtain ⟨b, rfl, hin, rfl⟩ := ai_ix_ok hk hvj
          exact va_sld hx hb hX hbl hbA hS hin hd (k (_ :: vs) ⟨hval _ _ (ai_in_lt hin), hSt2⟩)
        · cases h
      · cases h
  · next q x r =>
    obtain ⟨xs, hX, hbl, hbA, hval⟩ := hsc q rfl
    match vs, hSt with
    | [], hSt => exact hSt.elim
    | v :: vs, ⟨hv, hSt2⟩ =>
      split at h
      · next hx5 =>
        subst hx5
        have hv : v = .ref (e_b E) := (ai_VX (by decide)).mp hv
        subst hv
        cases h
        exact va_slen hx hb hX hbl hbA hS hd (k (_ :: vs) ⟨rfl, hSt2⟩)
      · cases h
  · cases h
theorem ai_oi_ok {M : AM} {d : Nat} (F : ai_Fr M D l p s m args meth c) (hl : lv_has ls (m_L M) lv) (hSt : ai_S E ws st vs) (hd : decode (m_cc M) pc = .ok (i, len)) (hck : ai_ck2 mt (m_own M) (m_cc M) (pc, i, len, aux) = true) (h : ai_oi i len aux st = some st') (h1 : 1 ≤ d) (hfr : d ≤ R.frames) (hlo : 36 * d ≤ R.locals) {Q : State → Prop}
    (k : ∀ vs' : List Value, ai_S E ws st' vs' → W p l e R s m args below meth c H locs cells slots Q (F0 m (pc + len) ls vs')) : W p l e R s m args below meth c H locs cells slots Q (F0 m pc ls vs) := by
  obtain ⟨hx, hb, hml, hown, hr, hlocks, hini, htab, hT, hG, htr⟩ := F
  unfold ai_oi at h
  split at h
  · next ix t1 t2 t3 x r =>
    match vs, hSt with
    | [], hSt => exact hSt.elim
    | v :: vs, ⟨hv, hSt⟩ =>
      split at h
      · next o ho =>
        obtain ⟨a, rfl, -⟩ := ai_rf_ok ho hv
        split at h
        · next h8 =>
          cases h
          have hck : (ai_w t1 (.methodLink (m_own M) ix Lib.objectInit) && ai_w t2 (.instanceMethod Lib.objectInit) && ai_w t3 (.code Lib.objectInit ⟨#[0xb1]⟩ 1 none)) = true := hck
          simp only [Bool.and_eq_true] at hck
          obtain ⟨⟨c1, c2⟩, c3⟩ := hck
          have hsum := ai_S_sum hSt
          refine W.objInit hx hb hown (hT _ (ai_w_ok c1).1 (ai_w_ok c1).2) (hT _ (ai_w_ok c2).1 (ai_w_ok c2).2) (hT _ (ai_w_ok c3).1 (ai_w_ok c3).2) (g := F0 m pc ls (.ref a :: vs)) rfl (hl.1.trans hml.symm) rfl hd (by omega) ?_ (k vs hSt)
          have := lv_room (m := m) (pc := pc) (ls := ls) (rest := .ref a :: vs) (st := vs) (by omega)
          omega
        · cases h
      · cases h
  · cases h
end AMN
