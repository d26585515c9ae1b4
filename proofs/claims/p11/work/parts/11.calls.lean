/-! ===== contracts out of runs, and calls ===== -/
def ai_Sc (sc : Option (Nat × (Nat → AV))) (E : AE) (A : Nat → Prop) (s : State) : Prop := ∀ q, sc = some q → ∃ xs : Nat → Int32, va_X (e_b E) q.1 xs s s.heap ∧ (e_b E) < s.heap.size ∧ ¬ A (e_b E) ∧ ∀ (j : Nat) (ws : va_W), j < q.1 → ai_V E ws (q.2 j) (.int (xs j))
def ai_Wk (mt : List AM) (M : AM) : Prop := ai_mok2 mt M = true ∧ ai_ckh (m_own M) (m_hh M) (m_hx M) = true
def ai_SND (mt : List AM) (l : Launch) (D : va_G) (E : AE) (ih : AIH) : Prop :=
  ∀ (sc : Option (Nat × (Nat → AV))) (d : Nat) (M : AM) (pc : Nat) (lo : ALo) (st : List AV) (σ : List AC) (r : AR), ai_Wk mt M → ih sc d M pc lo st σ = some r →
  ∀ (p : Program) (e : Env) (R : Room) (s : State) (m : MethodId) (args : Array Value) (below : List Frame) (meth : Method) (c : Code) (ws0 : va_W) (A : Nat → Prop) (ws : va_W) (H : Heap) (locs : List Loc) (ls : Array Slot) (lv : List (Nat × Value)) (vs : List Value) (cells slots mc ms : Nat),
    ai_Fr M D l p s m args meth c → ai_Sc sc E A s → (∀ q, s.heap.size ≤ q → A q) → ai_Z A s s.heap → ai_Ext ws0 ws → ai_W E s σ ws → va_P D vwCl ws H → va_D A ws → va_S A s.heap H locs → lv_has ls (m_L M) lv → ai_L E ws lo lv → ai_S E ws st vs → d ≤ R.frames → 36 * d ≤ R.locals → cells + r.2.2.1 ≤ mc → slots + r.2.2.2 ≤ ms → mc ≤ R.cells → ms ≤ R.slots →
    W p l e R s m args below meth c H locs cells slots (vx_MQ below (ai_Q E D r.1 r.2.1 ws0 A) (ai_X E D r.1 r.2.1 ws0 A) args s mc ms A) (F0 m pc ls vs)
/-- a method's row says -/
def ai_Mk (M : AM) : Prop := plainName (m_own M) = true ∧ (m_y M).cls = m_own M ∧ m_own M ≠ "java/lang/invoke/MethodHandle" ∧ m_own M ≠ "java/lang/invoke/VarHandle" ∧ (parseMethodDescriptor (m_y M).desc).map (fun d => d.parameters.length) = some (m_n M) ∧ m_L M ≤ 16 ∧
  m_head M ∈ m_G ∧ Cond.initialized (m_own M) ∈ m_G ∧ ai_ckh (m_own M) (m_hh M) (m_hx M) = true ∧
  (m_kind M = 0 → Cond.instanceMethod (m_y M) ∈ m_G ∧ Cond.selects (m_own M) (m_y M) (m_y M) ∈ m_G ∧ (vwCl[m_ci M]?).map (fun r => r.1) = some (m_own M) ∧ m_hh M = []) ∧
  (m_kind M = 1 → Cond.static (m_y M) ∈ m_G) ∧
  (m_kind M = 2 → Cond.instanceMethod (m_y M) ∈ m_G ∧ (m_y M).name = "<init>" ∧ m_ret M = none ∧ m_hh M = [])
theorem ai_w_G {t : Nat} {w : Cond} (h : ai_w t w = true) : w ∈ m_G := m_G_in (ai_w_ok h).1 (ai_w_ok h).2
theorem ai_Mk_of {M : AM} (h : ai_mok1 M = true) : ai_Mk M := by
  unfold ai_mok1 at h
  simp only [Bool.and_eq_true, decide_eq_true_eq] at h
  obtain ⟨⟨⟨⟨⟨⟨⟨h1, h2⟩, h3⟩, h4⟩, h5⟩, h6⟩, h7⟩, h8⟩ := h
  split at h7
  · next tc ti tk tsel hts =>
    simp only [Bool.and_eq_true] at h7
    obtain ⟨⟨g1, g2⟩, g3⟩ := h7
    refine ⟨h1, h2, h3, h4, h5, h6, ai_w_G g1, ai_w_G g2, h8, ?_, ?_, ?_⟩
    · intro hk
      rw [hk] at g3
      simp only [Bool.and_eq_true, decide_eq_true_eq] at g3
      exact ⟨ai_w_G g3.1.1.1, ai_w_G g3.1.1.2, g3.1.2, g3.2⟩
    · intro hk
      rw [hk] at g3
      exact ai_w_G g3
    · intro hk
      rw [hk] at g3
      simp only [Bool.and_eq_true, decide_eq_true_eq] at g3
      exact ⟨ai_w_G g3.1.1.1.1, g3.1.1.1.2, g3.1.1.2, g3.1.2⟩
  · cases h7
section ACT
variable {mt : List AM} {l : Launch} {D : va_G} {E : AE} {ih : AIH}
set_option maxHeartbeats 4000000 in
theorem ai_ct (hl : l.stackTraces = false) (S : ai_SND mt l D E ih) {M : AM} (hM : ai_Wk mt M) (K : ai_Mk M) {as : List AV} {σ : List AC} {d : Nat} {r : AR} (h : ih none d M 0 (ai_args 0 as) [] σ = some r) (hn : (as.map ai_wd).sum ≤ m_L M) : ai_CT l D E M as σ d r := by
  intro ws sz av hav
  obtain ⟨k1, k2, k3, k4, k5, k6, k7, k8, k9, k10, k11, k12⟩ := K
  have hlen : (lg_sl av).length ≤ m_L M := by rw [ai_sl_len, ai_S_sum hav]; exact hn
  have key : ∀ (p : Program) (e : Env) (s : State) (m : MethodId) (args : Array Value) (below : List Frame) (meth : Method) (c : Code) (s₁ : State), BodyLoose p l (m_y M) (headSpec (m_ws M) (ai_rm d r.2.2.1 r.2.2.2)) (m_cc M) (m_L M) (m_ret M) e s m args below meth c s₁ → c.maxLocals = m_L M → c.exceptionTable.toList = tableOf (m_hh M) → ai_Pc D E σ ws sz av args s →
      W p l e (headSpec (m_ws M) (ai_rm d r.2.2.1 r.2.2.2)).room s m args below meth c s.heap [] 0 0 (vx_MQ below (ai_Q E D r.1 r.2.1 ws (va_A ws sz)) (ai_X E D r.1 r.2.1 ws (va_A ws sz)) args s r.2.2.1 r.2.2.2 (va_A ws sz)) (entryFrame m args (m_L M)) := by
    intro p e s m args below meth c s₁ B hml htab hP
    obtain ⟨rfl, hsz, hW, hPP, hD, hG, hZ⟩ := hP
    subst hsz
    have hts := atoms_spec (ws := m_ws M) B.pre
    rw [lg_entry_eq]
    refine S none d M 0 (ai_args 0 as) [] σ r hM h p e _ s m _ below meth c ws (va_A ws s.heap.size) ws s.heap [] _ (lv_args 0 av) [] 0 0 r.2.2.1 r.2.2.2 ?_ ?_ ?_ hZ ai_Ext.rf hW hPP hD.self va_S.rf (lv_entry av hlen) (ai_args_ok 0 hav) trivial (Nat.le_refl _) (Nat.le_refl _) (by omega) (by omega) (Nat.le_refl _) (Nat.le_refl _)
    · refine ⟨B.exec, B.bytes, hml, ?_, B.returns, B.notSynchronized, ?_, htab, fun w hw hg => hts w (List.mem_cons_of_mem _ (m_G_in hw hg)), hG, hl⟩
      · have := findClass_of_methodNamed B.named
        rw [k2] at this
        exact this
      · intro hk
        exact (name_of_methodNamed B.named B.method).1.trans (k12 hk).2.1
    · intro q hq; cases hq
    · intro q hq; exact Or.inr hq
  by_cases hh : m_hh M = []
  · refine vx_ofW (cc := m_cc M) (maxL := m_L M) (ret := m_ret M) (ws' := m_G) (by rw [k2]; exact k1) (by unfold m_ws m_head; rw [if_pos hh]) ?_
    intro p e s m args below meth c s₁ B hml hempty hP
    exact key p e s m args below meth c s₁ B hml (by rw [hh]; exact List.eq_nil_iff_forall_not_mem.mpr hempty) hP
  · refine vx_ofWH (cc := m_cc M) (maxL := m_L M) (ret := m_ret M) (hh := m_hh M) (ws' := m_G) (by rw [k2]; exact k1) (by unfold m_ws m_head; rw [if_neg hh]) ?_
    intro p e s m args below meth c s₁ B hml hP
    have hts := atoms_spec (ws := m_ws M) B.pre
    have hc := hts (m_head M) List.mem_cons_self
    unfold m_head at hc
    rw [if_neg hh] at hc
    exact key p e s m args below meth c s₁ B hml (vx_table (x := m_y M) B hc) hP
end ACT
section ACR
variable {mt : List AM} {l : Launch} {D : va_G} {E : AE}
variable {p : Program} {e : Env} {R : Room} {s : State} {m : MethodId} {args : Array Value} {below : List Frame} {meth : Method} {c : Code} {H : Heap} {locs : List Loc} {cells slots : Nat} {pc : Nat} {ls : Array Slot} {i : Instr} {len : Nat} {aux : List Nat} {ws : va_W} {st : List AV} {vs : List Value} {σ : List AC} {A : Nat → Prop} {lv : List (Nat × Value)}
theorem ai_pre (hG : ai_G D s) (hZ : ai_Z A s s.heap) (hA : ∀ q, s.heap.size ≤ q → A q) (hW : ai_W E s σ ws) (hP : va_P D vwCl ws H) (hD : va_D A ws) (hS : va_S A s.heap H locs) (av : List Value) : ∀ U : State, U.heap = H → s.WarmedH U.vm → ai_Pc D E σ ws H.size av av.toArray U := by
  intro U hU hw
  exact ⟨rfl, by rw [hU], hW.moved hw.alike, by rw [hU]; exact hP, hD.weaken (fun _ _ _ _ => trivial), hG.warm hw, by rw [hU]; exact ((hZ.kept hS.2.1).moved hw.alike).narrow (ai_mono (σ := σ) (D := D) hD hS hA)⟩
theorem ai_split {n : Nat} {x : AV} {rr : List AV} (hS : ai_S E ws st vs) (h : st.drop n = x :: rr) : ∃ (v : Value) (vr : List Value), vs = (vs.take n).reverse.reverse ++ v :: vr ∧ (vs.take n).reverse.length = n ∧ ai_V E ws x v ∧ ai_S E ws rr vr ∧ ai_S E ws (st.take n).reverse (vs.take n).reverse := by
  have h1 := ai_S_drop n hS
  rw [h] at h1
  have hl : n < vs.length := by
    rw [← ai_S_len hS]
    rcases Nat.lt_or_ge n st.length with g | g
    · exact g
    · rw [List.drop_eq_nil_of_le g] at h; cases h
  cases hd : vs.drop n with
  | nil => rw [hd] at h1; exact h1.elim
  | cons v vr =>
    rw [hd] at h1
    refine ⟨v, vr, ?_, ?_, h1.1, h1.2, ai_S_rev (ai_S_take n hS)⟩
    · rw [List.reverse_reverse, ← hd, List.take_append_drop]
    · rw [List.length_reverse, List.length_take]; omega
set_option maxHeartbeats 4000000 in
theorem ai_callrun {M M' : AM} {as rest : List AV} {d' : Nat} {r : AR} (F : ai_Fr M D l p s m args meth c) (hZ : ai_Z A s s.heap) (hA : ∀ q, s.heap.size ≤ q → A q) (hW : ai_W E s σ ws) (hP : va_P D vwCl ws H) (hD : va_D A ws) (hS : va_S A s.heap H locs) (hl : lv_has ls (m_L M) lv) (hSt : ai_S E ws st vs)
    (hd : decode (m_cc M) pc = .ok (i, len)) (hck : ai_ck2 mt (m_own M) (m_cc M) (pc, i, len, aux) = true) (hcall : ai_call mt i len aux st σ = some (M', as, rest)) (hMs : ∀ M ∈ mt, ai_Mk M) (ct : ai_CT l D E M' as σ d' r) (hk2 : m_kind M' = 2 → ∃ ov, r.1 = .inl ov)
    (hfr : d' + 1 ≤ R.frames) (hlo : 36 * (d' + 1) ≤ R.locals) (hc : cells + r.2.2.1 ≤ R.cells) (hs : slots + r.2.2.2 ≤ R.slots) :
    len = 3 ∧ M' ∈ mt ∧ ∃ (vr : List Value) (av : Array Value), ai_S E ws rest vr ∧ vx_Run p l e R s m args below meth c H locs cells slots r.2.2.1 r.2.2.2 (F0 m pc ls vs) vr (ai_Q E D r.1 r.2.1 ws (va_A ws H.size) av) (ai_X E D r.1 r.2.1 ws (va_A ws H.size)) (va_A ws H.size) := by
  obtain ⟨hx, hb, hml, hown, hr, hlocks, hini, htab, hT, hG, htr⟩ := F
  have hts : ∀ w ∈ m_G, w.before args s = true := fun w hw => hT w (m_G_of hw).1 (m_G_of hw).2
  have hRoom : ∀ M' : AM, m_L M' ≤ 16 → (ai_rm d' r.2.2.1 r.2.2.2).frames + 1 ≤ R.frames ∧ 8 + (m_L M' + 11) + (ai_rm d' r.2.2.1 r.2.2.2).locals ≤ R.locals := fun M' h => ⟨hfr, by show 8 + (m_L M' + 11) + 36 * d' ≤ R.locals; omega⟩
  unfold ai_call at hcall
  split at hcall
  · next x k t =>
    split at hcall
    · next Mc hMc =>
      split at hcall
      · next xo rr hdrop =>
        split at hcall
        · next ob hob =>
          split at hcall
          · next hcond =>
            cases hcall
            have hmem : M' ∈ mt := List.mem_of_getElem? hMc
            obtain ⟨k1, k2, k3, k4, k5, k6, k7, k8, k9, k10, -, -⟩ := hMs M' hmem
            obtain ⟨q1, q2, q3, q4⟩ := k10 hcond.1
            obtain ⟨v, vr, e1, e2, e3, e4, e5⟩ := ai_split hSt hdrop
            obtain ⟨oi, ofs⟩ := ob
            obtain ⟨a, us, rfl, hw, -⟩ := ai_ob_ok hob hW e3
            have hck : (match mt[k]? with
              | some M => ai_w t (.methodLink (m_own _) x (m_y M))
              | none => false) = true := hck
            rw [hMc] at hck
            cases hrow : vwCl[m_ci M']? with
            | none => rw [hrow] at q3; cases q3
            | some row =>
              rw [hrow] at q3
              have q3 : row.1 = m_own M' := Option.some.inj q3
              refine ⟨rfl, hmem, vr, (Value.ref a :: (vs.take (m_n M')).reverse).toArray, e4, ?_⟩
              refine vx_runV (Ts := m_G) (C := m_own M') (ws := m_ws M') (rm := ai_rm d' r.2.2.1 r.2.2.2) (Pc := ai_Pc D E σ ws H.size (.ref a :: (vs.take (m_n M')).reverse)) (n := m_n M') ⟨hx, hb, hml, hown, hts⟩ (ct ws H.size _ ⟨e3, e5⟩)
                (cwV (m_n M') hts (m_good ?_) (by unfold m_ws m_head; rw [if_pos q4]) rfl rfl ⟨k2, by rw [k2]; exact k3, by rw [k2]; exact k4, k5⟩ (hRoom M' k6))
                ⟨ai_Pc_blind, ?_, ai_pre hG hZ hA hW hP hD hS _⟩ rfl e2 hl.1 e1 (lv_room (by rw [ai_S_sum e4]; exact hcond.2)) hd ⟨hc, hs⟩
              · intro w hw
                unfold wsV at hw
                rcases List.mem_append.mp hw with hw | hw
                · simp only [List.mem_cons, List.not_mem_nil, or_false] at hw
                  rcases hw with rfl | rfl | rfl | rfl
                  · exact ai_w_G hck
                  · exact q1
                  · exact q2
                  · exact k8
                · rcases List.mem_cons.mp hw with rfl | hw
                  · exact k7
                  · exact hw
              · obtain ⟨cell, g1, g2, g3⟩ := va_recv hG.1 hP hrow hw
                exact ⟨cell, g1, g2, by rw [← q3]; exact g3⟩
          · cases hcall
        · cases hcall
      · cases hcall
    · cases hcall
  · next x k t =>
    split at hcall
    · next Mc hMc =>
      split at hcall
      · next hcond =>
        cases hcall
        have hmem : M' ∈ mt := List.mem_of_getElem? hMc
        obtain ⟨k1, k2, k3, k4, k5, k6, k7, k8, k9, -, k11, -⟩ := hMs M' hmem
        have q1 := k11 hcond.1
        have e5 := ai_S_rev (ai_S_take (m_n M') hSt)
        have e4 := ai_S_drop (m_n M') hSt
        have e1 : vs = (vs.take (m_n M')).reverse.reverse ++ vs.drop (m_n M') := by rw [List.reverse_reverse, List.take_append_drop]
        have e2 : (vs.take (m_n M')).reverse.length = m_n M' := by
          rw [List.length_reverse, List.length_take, ← ai_S_len hSt]
          exact Nat.min_eq_left hcond.2.1
        have hck : (match mt[k]? with
          | some M => ai_w t (.methodLink (m_own _) x (m_y M))
          | none => false) = true := hck
        rw [hMc] at hck
        have hgood : GoodIn m_G (va_wsS (m_own M) x (m_y M') (m_ws M')) := m_good (by
          intro w hw
          unfold va_wsS at hw
          rcases List.mem_append.mp hw with hw | hw
          · simp only [List.mem_cons, List.not_mem_nil, or_false] at hw
            rcases hw with rfl | rfl | rfl
            · exact ai_w_G hck
            · exact q1
            · rw [k2]; exact k8
          · rcases List.mem_cons.mp hw with rfl | hw
            · exact k7
            · exact hw)
        refine ⟨rfl, hmem, vs.drop (m_n M'), ((vs.take (m_n M')).reverse).toArray, e4, ?_⟩
        by_cases hh : m_hh M' = []
        · exact vx_runS (Ts := m_G) (ws := m_ws M') (rm := ai_rm d' r.2.2.1 r.2.2.2) (Pc := ai_Pc D E σ ws H.size (vs.take (m_n M')).reverse) (n := m_n M') ⟨hx, hb, hml, hown, hts⟩ (ct ws H.size _ e5)
            (va_cwS (m_n M') hts hgood (by unfold m_ws m_head; rw [if_pos hh]) rfl rfl ⟨by rw [k2]; exact k3, by rw [k2]; exact k4, k5⟩ (hRoom M' k6))
            ⟨ai_Pc_blind, ai_pre hG hZ hA hW hP hD hS _⟩ rfl e2 hl.1 e1 (lv_room (by rw [ai_S_sum e4]; exact hcond.2.2)) hd ⟨hc, hs⟩
        · exact vx_runSX (hh := m_hh M') (Ts := m_G) (ws := m_ws M') (rm := ai_rm d' r.2.2.1 r.2.2.2) (Pc := ai_Pc D E σ ws H.size (vs.take (m_n M')).reverse) (n := m_n M') ⟨hx, hb, hml, hown, hts⟩ (ct ws H.size _ e5)
            (vx_cwSW (m_n M') hts hgood (by unfold m_ws m_head; rw [if_neg hh]) rfl rfl ⟨by rw [k2]; exact k3, by rw [k2]; exact k4, k5⟩ (hRoom M' k6))
            ⟨ai_Pc_blind, ai_pre hG hZ hA hW hP hD hS _⟩ rfl e2 hl.1 e1 (lv_room (by rw [ai_S_sum e4]; exact hcond.2.2)) hd ⟨hc, hs⟩
      · cases hcall
    · cases hcall
  · next x k t =>
    split at hcall
    · next Mc hMc =>
      split at hcall
      · next xo rr hdrop =>
        split at hcall
        · next ob hob =>
          split at hcall
          · next hcond =>
            cases hcall
            have hmem : M' ∈ mt := List.mem_of_getElem? hMc
            obtain ⟨k1, k2, k3, k4, k5, k6, k7, k8, k9, -, -, k12⟩ := hMs M' hmem
            obtain ⟨q1, q2, q3, q4⟩ := k12 hcond.1
            obtain ⟨v, vr, e1, e2, e3, e4, e5⟩ := ai_split hSt hdrop
            obtain ⟨a, rfl, -⟩ := ai_rf_ok hob e3
            obtain ⟨ov, hov⟩ := hk2 hcond.1
            have hck : (match mt[k]? with
              | some M => ai_w t (.methodLink (m_own _) x (m_y M))
              | none => false) = true := hck
            rw [hMc] at hck
            refine ⟨rfl, hmem, vr, (Value.ref a :: (vs.take (m_n M')).reverse).toArray, e4, ?_⟩
            have run := va_runI (b := a) (As := (vs.take (m_n M')).reverse) (rest := vr) (bytes := m_cc M') (maxL := m_L M') (Ts := m_G) (ws := m_ws M') (rm := ai_rm d' r.2.2.1 r.2.2.2) (Pc := ai_Pc D E σ ws H.size (.ref a :: (vs.take (m_n M')).reverse)) (n := m_n M') (below := below) (meth := meth) (cells := cells) (slots := slots) (locs := locs) (e := e) (g := F0 m pc ls vs) ⟨hx, hb, hml, hown, hts⟩ (ai_toMet (ct ws H.size _ ⟨e3, e5⟩) (fun N st t hX => by obtain ⟨n, w9, hn, -⟩ := hX; rw [hov] at hn; cases hn))
              (cwI (m_n M') hts (m_good (fun w hw => by
                rcases List.mem_cons.mp hw with rfl | hw
                · exact k7
                · exact hw)) (by unfold m_ws m_head; rw [if_pos q4, q3]) rfl rfl (hts _ (by rw [k2]; exact k8)) (hts _ (ai_w_G hck)) (hts _ q1) q2 ⟨by rw [k2]; exact k3, by rw [k2]; exact k4, k5⟩ (hRoom M' k6))
              ⟨ai_Pc_blind, ai_pre hG hZ hA hW hP hD hS _⟩ rfl e2 hl.1 e1 (lv_room (by rw [ai_S_sum e4]; exact hcond.2)) hd ⟨hc, hs⟩
            exact fun T hT X => Or.inl (run T hT X)
          · cases hcall
        · cases hcall
      · cases hcall
    · cases hcall
  · next x k t z1 z2 =>
    split at hcall
    · next Mc hMc =>
      split at hcall
      · next xo rr hdrop =>
        split at hcall
        · next ob hob =>
          split at hcall
          · next hcond =>
            cases hcall
            have hmem : M' ∈ mt := List.mem_of_getElem? hMc
            obtain ⟨k1, k2, k3, k4, k5, k6, k7, k8, k9, -, -, k12⟩ := hMs M' hmem
            obtain ⟨q1, q2, q3, q4⟩ := k12 hcond.1
            obtain ⟨v, vr, e1, e2, e3, e4, e5⟩ := ai_split hSt hdrop
            obtain ⟨a, rfl, -⟩ := ai_rf_ok hob e3
            obtain ⟨ov, hov⟩ := hk2 hcond.1
            have hck : (match mt[k]? with
              | some M' => ai_wb t (.methodLinkNest (m_own M) x (m_y M') "MountYard")
              | none => false) = true := hck
            rw [hMc] at hck
            have hnw : va_Nw (.methodLinkNest (m_own M) x (m_y M') "MountYard") s := hG.2.2.1 _ (ai_wb_ok hck) rfl
            refine ⟨rfl, hmem, vr, (Value.ref a :: (vs.take (m_n M')).reverse).toArray, e4, ?_⟩
            have run := va_runIN (host := "MountYard") (b := a) (As := (vs.take (m_n M')).reverse) (rest := vr) (bytes := m_cc M') (maxL := m_L M') (Ts := m_G) (ws := m_ws M') (rm := ai_rm d' r.2.2.1 r.2.2.2) (Pc := ai_Pc D E σ ws H.size (.ref a :: (vs.take (m_n M')).reverse)) (n := m_n M') (below := below) (meth := meth) (cells := cells) (slots := slots) (locs := locs) (e := e) (g := F0 m pc ls vs) ⟨hx, hb, hml, hown, hts⟩ (ai_toMet (ct ws H.size _ ⟨e3, e5⟩) (fun N st t hX => by obtain ⟨n, w9, hn, -⟩ := hX; rw [hov] at hn; cases hn))
              ⟨va_cnB (m_n M') hts (m_good (fun w hw => by
                rcases List.mem_cons.mp hw with rfl | hw
                · exact k7
                · exact hw)) (by unfold m_ws m_head; rw [if_pos q4, q3]) rfl rfl hnw (hts _ (by rw [k2]; exact k8)) ⟨by rw [k2]; exact k3, by rw [k2]; exact k4, k5⟩ (hRoom M' k6), q2, hts _ q1⟩
              ⟨ai_Pc_blind, ai_pre hG hZ hA hW hP hD hS _⟩ rfl e2 hl.1 e1 (lv_room (by rw [ai_S_sum e4]; exact hcond.2)) hd ⟨hc, hs⟩
            exact fun T hT X => Or.inl (run T hT X)
          · cases hcall
        · cases hcall
      · cases hcall
    · cases hcall
  · cases hcall
end ACR
