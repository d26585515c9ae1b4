/-! ===== machine B: the run is sound ===== -/
def b_Sc (T : BT) (B : BE) (n0 : List Int) (g0 : BG) (A : Nat → Prop) (s : State) : Prop := t_sc T = true → ∃ (L : Nat) (xs : Nat → Int32), va_X (b_xo B 5) L xs s s.heap ∧ b_xo B 5 < s.heap.size ∧ ¬ A (b_xo B 5) ∧ L < 2147483648 ∧ n0[0]? = some (L : Int) ∧ ∀ j, j < L → g0 300 j = (xs j).toInt
section BSD
variable {mt : List AM} {cts : List BT} {T : BT} {M : AM} {l : Launch} {D : va_G} {B : BE} {p : Program} {e : Env} {R : Room} {s : State} {m : MethodId} {args : Array Value} {below : List Frame} {meth : Method} {c : Code} {A : Nat → Prop} {n0 : List Int} {g0 : BG} {mc ms : Nat}
/-- what is fixed while a method runs -/
def b_Fx (T : BT) (M : AM) (l : Launch) (D : va_G) (B : BE) (p : Program) (R : Room) (s : State) (m : MethodId) (args : Array Value) (meth : Method) (c : Code) (A : Nat → Prop) (n0 : List Int) (g0 : BG) (mc ms : Nat) : Prop :=
  ai_Fr M D l p s m args meth c ∧ b_En D B A s ∧ (∀ q, s.heap.size ≤ q → A q) ∧ n0.length = t_k T ∧ rf_ok n0 (b_rf (t_as T)) ∧ t_d T ≤ R.frames ∧ 36 * t_d T ≤ R.locals ∧ mc ≤ R.cells ∧ ms ≤ R.slots ∧ b_Sc T B n0 g0 A s
/-- where a run stands -/
def b_Cf (T : BT) (D : va_G) (B : BE) (s : State) (A : Nat → Prop) (n0 : List Int) (g0 : BG) (mc ms : Nat) (nu : List Int) (g : BG) (H : Heap) (locs : List Loc) (cells slots : Nat) (t : BS) (al : Li) : Prop :=
  nu_le n0 nu ∧ bg_same (t_md T) g0 g ∧ bw_ok g ∧ bs_ok nu g t ∧ va_P D vwCl (bw B g) H ∧ va_D A (bw B g) ∧ va_S A s.heap H locs ∧ ∃ a : Nat, li_e nu al = some (a : Int) ∧ cells + a ≤ mc ∧ slots + 6 * a ≤ ms
def b_PQ (T : BT) (D : va_G) (B : BE) (s : State) (args : Array Value) (below : List Frame) (A : Nat → Prop) (n0 : List Int) (g0 : BG) (mc ms : Nat) : State → Prop := vx_MQ below (b_Q D B (t_os T) (t_md T) n0 g0 A) (b_X D B (t_os T) (t_md T) n0 g0 A) args s mc ms A
def b_HY (T : BT) (M : AM) (l : Launch) (D : va_G) (B : BE) (p : Program) (e : Env) (R : Room) (s : State) (m : MethodId) (args : Array Value) (below : List Frame) (meth : Method) (c : Code) (A : Nat → Prop) (n0 : List Int) (g0 : BG) (mc ms : Nat) (h : BH) (zb : Option Int) : Prop :=
  ∀ (nu : List Int) (g : BG) (H : Heap) (locs : List Loc) (cells slots : Nat) (ls : Array Slot) (lv : List (Nat × Value)), b_Cf T D B s A n0 g0 mc ms nu g H locs cells slots h.2.2.1 h.2.2.2.2.1 → lv_has ls (m_L M) lv → b_L B nu h.2.1 lv → (∃ z, li_e nu h.2.2.2.1 = some z ∧ ∀ z0, zb = some z0 → z < z0) →
    W p l e R s m args below meth c H locs cells slots (b_PQ T D B s args below A n0 g0 mc ms) (F0 m h.1 ls [])
def b_zb (nu : List Int) (msr : Option Li) (zb : Option Int) : Prop := match msr with
  | none => zb = none
  | some f => ∃ z0, zb = some z0 ∧ li_e nu f = some z0
theorem b_zb.mono {nu nv : List Int} (h : nu_le nu nv) {msr : Option Li} {zb : Option Int} (k : b_zb nu msr zb) : b_zb nv msr zb := by
  unfold b_zb at k ⊢
  split
  · exact k
  · obtain ⟨z, h1, h2⟩ := k
    exact ⟨z, h1, li_e_mono h h2⟩
def b_SN (T : BT) (M : AM) (l : Launch) (D : va_G) (B : BE) (p : Program) (e : Env) (R : Room) (s : State) (m : MethodId) (args : Array Value) (below : List Frame) (meth : Method) (c : Code) (A : Nat → Prop) (n0 : List Int) (g0 : BG) (mc ms : Nat) (msr : Option Li) (ih : BIH) : Prop :=
  ∀ (fst : Bool) (pc : Nat) (lo : BLo) (st : List BV) (t : BS) (al : Li), ih fst pc lo st t al = true → ∀ (nu : List Int) (g : BG) (H : Heap) (locs : List Loc) (cells slots : Nat) (ls : Array Slot) (lv : List (Nat × Value)) (vs : List Value) (zb : Option Int),
    b_Cf T D B s A n0 g0 mc ms nu g H locs cells slots t al → lv_has ls (m_L M) lv → b_L B nu lo lv → b_S B nu st vs → b_zb nu msr zb → (∀ h ∈ t_hs T, b_HY T M l D B p e R s m args below meth c A n0 g0 mc ms h zb) →
    W p l e R s m args below meth c H locs cells slots (b_PQ T D B s args below A n0 g0 mc ms) (F0 m pc ls vs)
variable {nu : List Int} {g : BG} {H : Heap} {locs : List Loc} {cells slots : Nat} {ls : Array Slot} {lv : List (Nat × Value)} {vs : List Value} {t : BS} {al : Li} {lo : BLo} {st : List BV} {pc : Nat}
/-- the state moves on, the world stays -/
theorem b_Cf.up (C : b_Cf T D B s A n0 g0 mc ms nu g H locs cells slots t al) {nv : List Int} {t' : BS} (h : nu_le nu nv) (ht : bs_ok nv g t') : b_Cf T D B s A n0 g0 mc ms nv g H locs cells slots t' al := by
  obtain ⟨c1, c2, c3, c4, c5, c6, c7, a, c8, c9⟩ := C
  exact ⟨c1.tr h, c2, c3, ht, c5, c6, c7, a, li_e_mono h c8, c9⟩
theorem b_Cf.wr (C : b_Cf T D B s A n0 g0 mc ms nu g H locs cells slots t al) {t' : BS} {g' : BG} {H' : Heap} {locs' : List Loc} (h : bg_same (t_md T) g g') (hg : bw_ok g') (ht : bs_ok nu g' t') (hP : va_P D vwCl (bw B g') H') (hD : va_D A (bw B g')) (hS : va_S A s.heap H' locs') : b_Cf T D B s A n0 g0 mc ms nu g' H' locs' cells slots t' al := by
  obtain ⟨c1, c2, c3, c4, c5, c6, c7, c8⟩ := C
  exact ⟨c1, c2.tr h, hg, ht, hP, hD, hS, c8⟩
theorem b_evd {t2 : State} (C : b_Cf T D B s A n0 g0 mc ms nu g H locs cells slots t al) (ht : t2.heap = H) : b_Ev D B (t_md T) g0 A s t2 g := by
  obtain ⟨c1, c2, c3, c4, c5, c6, c7, c8⟩ := C
  exact ⟨by rw [ht]; exact c5, c6, c7.F ht, c3, c2⟩
theorem b_o1_some {r : Option (List Li × BS)} (h : r.isSome = true) : ∃ q, r = some q := Option.isSome_iff_exists.mp h
theorem bm_out_v (X : b_Fx T M l D B p R s m args meth c A n0 g0 mc ms) (C : b_Cf T D B s A n0 g0 mc ms nu g H locs cells slots t al) {ov : Option BV} (h : bm_out T (.inl ov) t = true) {v : Option Value} (hv : b_O B nu ov v) : ∃ (o : BO) (ow : Option BV) (nq : List Int), o ∈ t_os T ∧ o.1 = .inl ow ∧ b_O B nq ow v ∧ nu_le n0 nq ∧ bs_ok nq g o.2 := by
  obtain ⟨-, -, -, hk, hrf, -⟩ := X
  obtain ⟨c1, c2, c3, c4, c5, c6, c7, c8⟩ := C
  obtain ⟨o, ho, hk2⟩ := List.any_eq_true.mp h
  clear h
  have ids : li_T nu (li_ids (t_k T)) n0 := by rw [← hk]; exact li_ids_ok c1
  unfold bm_o1 at hk2
  split at hk2
  · next e1 e2 =>
    cases e2
    match v, hv with
    | none, _ =>
      obtain ⟨q, hq⟩ := b_o1_some hk2
      obtain ⟨nv, nq, -, -, -, q4, -, q6⟩ := bu_all_ok (B := B) c4 c3 ids (hrf.mono c1) hq (vs := []) trivial
      exact ⟨o, none, nq, ho, e1, trivial, q4, q6⟩
    | some _, hv => exact hv.elim
  · next p a e1 e2 =>
    cases e2
    match v, hv with
    | some v, hv =>
      obtain ⟨q, hq⟩ := b_o1_some hk2
      have hS : b_S B nu [a] [v] := ⟨hv, trivial⟩
      obtain ⟨nv, nq, -, -, -, q4, q5, q6⟩ := bu_all_ok (B := B) c4 c3 ids (fun q hq => by
        rcases List.mem_append.mp hq with hq | hq
        · exact b_rf_ok hS q hq
        · exact (hrf.mono c1) q hq) hq hS
      exact ⟨o, some p, nq, ho, e1, q5.1, q4, q6⟩
    | none, hv => exact hv.elim
  · next e2 => cases e2
  · cases hk2
theorem bm_out_x (X : b_Fx T M l D B p R s m args meth c A n0 g0 mc ms) (C : b_Cf T D B s A n0 g0 mc ms nu g H locs cells slots t al) {n : Nat} (h : bm_out T (.inr n) t = true) : ∃ (o : BO) (nq : List Int), o ∈ t_os T ∧ o.1 = .inr n ∧ nu_le n0 nq ∧ bs_ok nq g o.2 := by
  obtain ⟨-, -, -, hk, hrf, -⟩ := X
  obtain ⟨c1, c2, c3, c4, c5, c6, c7, c8⟩ := C
  obtain ⟨o, ho, hk2⟩ := List.any_eq_true.mp h
  clear h
  have ids : li_T nu (li_ids (t_k T)) n0 := by rw [← hk]; exact li_ids_ok c1
  unfold bm_o1 at hk2
  split at hk2
  · next e2 => cases e2
  · next e2 => cases e2
  · next n' k e1 e2 =>
    cases e2
    rw [Bool.and_eq_true, decide_eq_true_eq] at hk2
    obtain ⟨q, hq⟩ := b_o1_some hk2.2
    obtain ⟨nv, nq, -, -, -, q4, -, q6⟩ := bu_all_ok (B := B) c4 c3 ids (hrf.mono c1) hq (vs := []) trivial
    exact ⟨o, nq, ho, by rw [e1, hk2.1], q4, q6⟩
  · cases hk2
theorem bm_hd_ok (X : b_Fx T M l D B p R s m args meth c A n0 g0 mc ms) (hAl : ∀ h ∈ t_hs T, bs_ge h.2.2.1 h.2.2.2.2.1 = true) (C : b_Cf T D B s A n0 g0 mc ms nu g H locs cells slots t al) (hl : lv_has ls (m_L M) lv) (hL : b_L B nu lo lv) (hS : b_S B nu st vs) {msr : Option Li} {zb : Option Int} (hz : b_zb nu msr zb) {h : BH} (hh : h ∈ t_hs T) (k : bm_hd T msr h lo st t al = true)
    (Y : b_HY T M l D B p e R s m args below meth c A n0 g0 mc ms h zb) : W p l e R s m args below meth c H locs cells slots (b_PQ T D B s args below A n0 g0 mc ms) (F0 m h.1 ls vs) := by
  have hal := hAl h hh
  obtain ⟨-, -, -, hk, hrf, -⟩ := X
  obtain ⟨c1, c2, c3, c4, c5, c6, c7, a, c8, c9, c10⟩ := C
  have ids : li_T nu (li_ids (t_k T)) n0 := by rw [← hk]; exact li_ids_ok c1
  unfold bm_hd at k
  split at k
  · next as has =>
    match vs, hS with
    | _ :: _, hS => exact hS.elim
    | [], _ =>
      obtain ⟨lw, w1, w2, w3⟩ := b_pick_ok hL has
      split at k
      · next r hr =>
        obtain ⟨nv, nq, q1, q2, q3, q4, q5, q6⟩ := bu_all_ok (B := B) c4 c3 ids (b_rf_ok w3) hr w3
        rw [Bool.and_eq_true] at k
        obtain ⟨k1, k2⟩ := k
        split at k1
        · next b hb =>
          obtain ⟨x, x1, x2⟩ := li_s_ok q3 hb
          split at k2
          · next b2 hb2 =>
            obtain ⟨y, y1, y2⟩ := li_s_ok q3 hb2
            have hy0 := bs_ge_ok q6 hal y1
            have hya := bs_ge_ok q2 k2 (li_e_sub (li_e_mono q1 c8) y2)
            refine Y nq g H locs cells slots ls lw ⟨q4, c2, c3, q6, c5, c6, c7, y.toNat, by rw [show ((y.toNat : Nat) : Int) = y by omega]; exact y1, by omega, by omega⟩ ⟨hl.1, hl.2.1, fun q hq => hl.2.2 q (w1 q hq)⟩ (b_S_L w2 q5) ?_
            refine ⟨x, x1, fun z0 hz0 => ?_⟩
            unfold b_zb at hz
            split at hz
            · rw [hz] at hz0; cases hz0
            · next f =>
              obtain ⟨z1, e1, e2⟩ := hz
              rw [e1] at hz0
              cases hz0
              have := bs_ge_ok q2 k1 (li_e_sh (-1) (li_e_sub (li_e_mono q1 e2) x2))
              omega
          · cases k2
        · cases k1
      · cases k
  · cases k
set_option maxHeartbeats 1000000 in
theorem bm_ret_ok (X : b_Fx T M l D B p R s m args meth c A n0 g0 mc ms) (C : b_Cf T D B s A n0 g0 mc ms nu g H locs cells slots t al) (hS : b_S B nu st vs) {i : Instr} {len : Nat} (hd : decode (m_cc M) pc = .ok (i, len)) {ov : Option BV} (h : bm_ret M i len st t = some ov) (ho : bm_out T (.inl ov) t = true) :
    W p l e R s m args below meth c H locs cells slots (b_PQ T D B s args below A n0 g0 mc ms) (F0 m pc ls vs) := by
  have X' := X
  obtain ⟨⟨hx, hb, hml, hown, hr, hlocks, hini, htab, hT, hG, htr⟩, -⟩ := X
  have C' := C
  obtain ⟨c1, c2, c3, c4, c5, c6, c7, a, c8, c9, c10⟩ := C
  refine W.widen (show cells ≤ mc by omega) (show slots ≤ ms by omega) (vx_ret (XC := b_X D B (t_os T) (t_md T) n0 g0 A) ?_)
  have fin : ∀ (v : Option Value), b_O B nu ov v → ∀ t2 : State, t2.heap = H → s.WarmedH t2.vm → b_Q D B (t_os T) (t_md T) n0 g0 A args s (.returned v) t2 := fun v hv t2 ht _ => by
    obtain ⟨o, ow, nq, o1, o2, o3, o4, o5⟩ := bm_out_v X' C' ho hv
    exact ⟨o, ow, v, nq, g, o1, o2, rfl, o3, o4, o5, b_evd C' ht⟩
  unfold bm_ret at h
  split at h
  · next q =>
    match vs, hS with
    | [], hS => exact hS.elim
    | _ :: _ :: _, ⟨_, hS⟩ => exact hS.elim
    | [v], ⟨hv, _⟩ =>
      split at h
      · next ty hret =>
        split at h
        · next hcond =>
          cases h
          obtain ⟨y, rfl, hy⟩ := bv_N0 hcond.1 hv
          have n1 : narrow ty (.int y) = .int y := by
            have hf := hcond.2
            unfold bm_rf at hf
            split at hf
            · rfl
            · have := bs_fit_ok c4 hf hy
              rcases ai_bool (x := y) (by omega) (by omega) with rfl | rfl <;> rfl
            · have := bs_fit_ok c4 hf hy
              rw [← fb_byte (x := y) (by omega) (by omega)]
              exact pk_nb _
            · have := bs_fit_ok c4 hf hy
              obtain ⟨j, hj, rfl⟩ := nI_of (x := y) (fun z => by have := Int32.lt_iff_toInt_lt.mp z; have e2 : (0 : Int32).toInt = 0 := rfl; omega)
              rw [nI_toInt hj] at this
              exact (pk_charN (by omega)).1
            · cases hf
          exact W.zret hx hb (hr.trans hret) n1 (fin _ hv) c7.2.2 hd hlocks
        · cases h
      · cases h
  · next q =>
    match vs, hS with
    | [], hS => exact hS.elim
    | _ :: _ :: _, ⟨_, hS⟩ => exact hS.elim
    | [v], ⟨hv, _⟩ =>
      split at h
      · next hcond =>
        cases h
        obtain ⟨y, rfl, hy⟩ := bv_N1 hcond.2 hv
        exact W.lret hx hb (hr.trans hcond.1) (fin _ hv) c7.2.2 hd hlocks
      · cases h
  · next x =>
    match vs, hS with
    | [], hS => exact hS.elim
    | _ :: _ :: _, ⟨_, hS⟩ => exact hS.elim
    | [v], ⟨hv, _⟩ =>
      split at h
      · next Cn hret =>
        split at h
        · next hcond =>
          cases h
          exact W.aret hx hb (hr.trans hret) (Or.inl ⟨Cn, rfl⟩) (bv_V_ref hcond hv) (fin _ hv) c7.2.2 hd hlocks
        · cases h
      · cases h
  · match vs, hS with
    | _ :: _, hS => exact hS.elim
    | [], _ =>
      split at h
      · next hcond =>
        cases h
        exact W.vret hx hb (hr.trans hcond) (fin none trivial) c7.2.2 hd hlocks
      · cases h
  · cases h
set_option maxHeartbeats 1000000 in
theorem bm_th_ok (X : b_Fx T M l D B p R s m args meth c A n0 g0 mc ms) (C : b_Cf T D B s A n0 g0 mc ms nu g H locs cells slots t al) (hl : lv_has ls (m_L M) lv) (hS : b_S B nu st vs) {i : Instr} {len : Nat} {aux : List Nat} (hd : decode (m_cc M) pc = .ok (i, len)) (hck : ai_ck2 mt (m_own M) (m_cc M) (pc, i, len, aux) = true) {n : Nat} (h : bm_th (t_d T) M i len aux st = some n) (hal : bs_ge t (li_sh (-1) al) = true) (ho : bm_out T (.inr n) t = true) :
    W p l e R s m args below meth c H locs cells slots (b_PQ T D B s args below A n0 g0 mc ms) (F0 m pc ls vs) := by
  have X' := X
  obtain ⟨⟨hx, hb, hml, hown, hr, hlocks, hini, htab, hT, hG, htr⟩, ⟨-, hZ, -⟩, -, -, -, hfr, hlo, hRc, hRs, -⟩ := X
  have C' := C
  obtain ⟨c1, c2, c3, c4, c5, c6, c7, a, c8, c9, c10⟩ := C
  have ha1 := bs_ge_ok c4 hal (li_e_sh (-1) c8)
  obtain ⟨o, nq, o1, o2, o3, o4⟩ := bm_out_x X' C' ho
  unfold bm_th at h
  split at h
  · next x n' t1 t2 ic z =>
    split at h
    · next hcond =>
      cases h
      have hck : ax_ck (m_own M) (m_cc M) pc x n t1 t2 ic z = true := hck
      unfold ax_ck at hck
      simp only [Bool.and_eq_true, decide_eq_true_eq] at hck
      obtain ⟨⟨⟨⟨⟨⟨d0, d1⟩, d2⟩, d3⟩, d4⟩, d5⟩, d7⟩ := hck
      have d6 := ax_all (own := m_own M) (ic := ic) d0 (ai_w_ok d7).1
      have hk := hT _ (ai_w_ok d1).1 (ai_w_ok d1).2
      have hi := hT _ (ai_w_ok d2).1 (ai_w_ok d2).2
      have hcls : Bundle.fit (ax_n n) = true := by
        match n, d0 with
        | 0, _ => decide +kernel
        | 1, _ => decide +kernel
        | 2, _ => decide +kernel
        | 3, _ => decide +kernel
        | 4, _ => decide +kernel
      refine vx_throw0 (cls := ax_n n) (names := ax_up) hx hb htr hown hcls (by decide +kernel) hk hi (fun w hw => ?_) (fun w hw => ?_) hZ.1 hZ.2 c7 (hl.1.trans hml.symm) hd d3 d4 d5 ?_ ?_ ?_ (by omega) (by omega) hlocks ?_ c7.2.2 (by omega) (by omega)
      · obtain ⟨g1, g2, g3⟩ := d6 w hw
        rcases g3 with g3 | g3
        · exact hT w g1 g3
        · exact va_Nw.use (ax_kw_on g3) (hG.2.2.1 w g1 g3)
      · rcases List.mem_cons.mp hw with rfl | hw
        · rfl
        · rcases List.mem_cons.mp hw with rfl | hw
          · rfl
          · exact (d6 w hw).2.1
      · intro y hy
        rw [htab, hcond.2.1] at hy
        cases hy
      · show 2 + 3 < R.frames
        omega
      · have := b_S_sum hS
        have h8 := hcond.2.2
        show _ + (13 * (2 + 1) + 42) ≤ R.locals
        omega
      · intro t3 ha h1 h2
        refine ⟨o, n, nq, g, o1, o2, d0, rfl, o3, o4, c5.kept (fun k q hk => h2 q.1 ((c5 k q hk).lt)), c6, ⟨Nat.le_trans c7.1 h1, fun q g1 g2 => ?_⟩, c3, c2⟩
        rw [h2 q (Nat.lt_of_lt_of_le g1 c7.1)]
        exact c7.2.1 q g1 g2
    · cases h
  · cases h
theorem bm_sc_ok (X : b_Fx T M l D B p R s m args meth c A n0 g0 mc ms) (C : b_Cf T D B s A n0 g0 mc ms nu g H locs cells slots t al) (hS : b_S B nu st vs) {i : Instr} {len : Nat} (hd : decode (m_cc M) pc = .ok (i, len)) {r : List BV × BS} (h : bm_sc (t_sc T) i len st t = some r) {Q : State → Prop}
    (k : ∀ (nv : List Int) (vs' : List Value), nu_le nu nv → bs_ok nv g r.2 → b_S B nv r.1 vs' → W p l e R s m args below meth c H locs cells slots Q (F0 m (pc + len) ls vs')) : W p l e R s m args below meth c H locs cells slots Q (F0 m pc ls vs) := by
  obtain ⟨⟨hx, hb, hml, hown, hr, hlocks, hini, htab, hT, hG, htr⟩, -, -, -, -, -, -, -, -, hsc⟩ := X
  obtain ⟨c1, c2, c3, c4, c5, c6, c7, c8⟩ := C
  unfold bm_sc at h
  split at h
  · next r2 =>
    match vs, hS with
    | [], hS => exact hS.elim
    | v :: vs, ⟨hv, hS2⟩ =>
      split at h
      · next hc =>
        cases h
        obtain ⟨h1, rfl⟩ := hc
        obtain ⟨L, xs, hX, hbl, hbA, hL, h0, -⟩ := hsc h1
        have hv : v = .ref (b_xo B 5) := hv
        subst hv
        refine va_slen hx hb hX hbl hbA c7 hd (k nu (_ :: vs) nu_le.rf c4 ⟨bv_i.mpr ⟨_, rfl, ?_⟩, hS2⟩)
        show li_e nu (li_n 0) = some (nI L).toInt
        rw [nI_toInt (by omega)]
        exact li_e_n (c1 0 _ h0)
      · cases h
  · next x r2 =>
    match vs, hS with
    | [], hS => exact hS.elim
    | [_], ⟨_, hS⟩ => exact hS.elim
    | vj :: v :: vs, ⟨hvj, hv, hS2⟩ =>
      split at h
      · next hc =>
        cases h
        obtain ⟨h1, rfl, h2, h3, h4⟩ := hc
        obtain ⟨L, xs, hX, hbl, hbA, hL, h0, hj⟩ := hsc h1
        have hv : v = .ref (b_xo B 5) := hv
        subst hv
        obtain ⟨b, rfl, hxj⟩ := bv_N0 h2 hvj
        have g3 := bs_ge_ok c4 h3 hxj
        have g4 := bs_ge_ok c4 h4 (li_e_sh (-1) (li_e_sub (li_e_n (c1 0 _ h0)) hxj))
        have eb : (b.toNatClampNeg : Int) = b.toInt := by show (b.toInt.toNat : Int) = b.toInt; omega
        have hval : bq_G g 1010 0 b.toInt = (xs b.toNatClampNeg).toInt := by
          show g 300 b.toInt.toNat = _
          rw [c2.out (by omega)]
          exact hj b.toNatClampNeg (by omega)
        have hrg := fb_rng (xs b.toNatClampNeg)
        obtain ⟨nv, n1, n2, n3⟩ := bs_q_G c4 (k := 1010) (by omega) (li_e_c nu 0) hxj (lo := -2147483648) (hi := 2147483647) (by rw [hval]; omega) (by rw [hval]; omega)
        rw [hval] at n3
        exact va_sld hx hb hX hbl hbA c7 (vp_in_iff.mpr ⟨g3, by omega⟩) hd (k nv (_ :: vs) n1 n2 ⟨bv_i.mpr ⟨_, rfl, n3⟩, hS2.mono n1⟩)
      · cases h
  · cases h
end BSD
