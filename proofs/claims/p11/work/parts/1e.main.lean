/-! ===== machine B: calls; every checked contract holds ===== -/
section BCR
variable {mt : List AM} {cts : List BT} {T : BT} {M : AM} {l : Launch} {D : va_G} {B : BE} {p : Program} {e : Env} {R : Room} {s : State} {m : MethodId} {args : Array Value} {below : List Frame} {meth : Method} {c : Code} {A : Nat → Prop} {n0 : List Int} {g0 : BG} {mc ms : Nat}
variable {nu : List Int} {g : BG} {H : Heap} {locs : List Loc} {cells slots : Nat} {ls : Array Slot} {lv : List (Nat × Value)} {vs : List Value} {t : BS} {al : Li} {lo : BLo} {st : List BV} {pc : Nat}
theorem b_Amono (hA : ∀ q, s.heap.size ≤ q → A q) (hD : va_D A (bw B g)) (hS : va_S A s.heap H locs) : ∀ q, va_A (bw B g) H.size q → A q := by
  intro q h
  rcases h with ⟨k, e, h⟩ | h
  · exact hD.2 k (q, e) h
  · exact hA q (Nat.le_trans hS.1 h)
theorem b_pre (hE : b_En D B A s) (hA : ∀ q, s.heap.size ≤ q → A q) (hP : va_P D vwCl (bw B g) H) (hD : va_D A (bw B g)) (hS : va_S A s.heap H locs) (av : List Value) : ∀ U : State, U.heap = H → s.WarmedH U.vm → b_Pc D B g H.size av av.toArray U := by
  obtain ⟨hG, hZ, hB, hR, hZs⟩ := hE
  intro U hU hw
  have mono := b_Amono hA hD hS
  exact ⟨rfl, by rw [hU], by rw [hU]; exact hP, hD.weaken (fun _ _ _ _ => trivial), hG.warm hw, by rw [hU]; exact ((hZ.kept hS.2.1).moved hw.alike).narrow mono, hB.moved hw.alike, hR.warm hw, by rw [hU]; exact ((hZs.kept hS.2.1).moved hw.alike).narrow mono⟩
set_option maxHeartbeats 4000000 in
theorem b_callrun {M' : AM} {k : Nat} {as rest : List BV} (X : b_Fx T M l D B p R s m args meth c A n0 g0 mc ms) (C : b_Cf T D B s A n0 g0 mc ms nu g H locs cells slots t al) (hl : lv_has ls (m_L M) lv) (hSt : b_S B nu st vs) {i : Instr} {len : Nat} {aux : List Nat}
    (hd : decode (m_cc M) pc = .ok (i, len)) (hck : ai_ck2 mt (m_own M) (m_cc M) (pc, i, len, aux) = true) (hck4 : b_ck4 mt (m_own M) i aux = true) (hcall : bm_call mt i len aux st = some (k, M', as, rest)) (hMs : ∀ M ∈ mt, b_Mk M) :
    len = 3 ∧ mt[k]? = some M' ∧ ∃ (vr av : List Value), b_S B nu rest vr ∧ b_S B nu as av ∧ ∀ (C' : BT) (np : List Int), b_CT mt l D B C' → t_mi C' = k → bs_ok np g (t_s C') → b_S B np (t_as C') av → (aux.length ≠ 3 ∨ bm_nx C' = true) → t_d C' + 1 ≤ t_d T → cells + t_mc C' ≤ R.cells → slots + 6 * t_mc C' ≤ R.slots →
      vx_Run p l e R s m args below meth c H locs cells slots (t_mc C') (6 * t_mc C') (F0 m pc ls vs) vr (b_Q D B (t_os C') (t_md C') np g (va_A (bw B g) H.size) av.toArray) (b_X D B (t_os C') (t_md C') np g (va_A (bw B g) H.size)) (va_A (bw B g) H.size) := by
  obtain ⟨⟨hx, hb, hml, hown, hr, hlocks, hini, htab, hT, hG, htr⟩, hE, hA, -, -, hfr, hlo, hRc, hRs, -⟩ := X
  obtain ⟨c1, c2, c3, c4, c5, c6, c7, -⟩ := C
  have hts : ∀ w ∈ m_G, w.before args s = true := fun w hw => hT w (m_G_of hw).1 (m_G_of hw).2
  have hRoom : ∀ (M' : AM) (C' : BT), m_L M' ≤ 16 → t_d C' + 1 ≤ t_d T → (ai_rm (t_d C') (t_mc C') (6 * t_mc C')).frames + 1 ≤ R.frames ∧ 8 + (m_L M' + 11) + (ai_rm (t_d C') (t_mc C') (6 * t_mc C')).locals ≤ R.locals := fun M' C' h h2 => ⟨by show t_d C' + 1 ≤ _; omega, by show 8 + (m_L M' + 11) + 36 * t_d C' ≤ R.locals; omega⟩
  unfold bm_call at hcall
  split at hcall
  · next x k' tt =>
    split at hcall
    · next Mc hMc =>
      split at hcall
      · next xo rr hdrop =>
        split at hcall
        · next hcond =>
          cases hcall
          obtain ⟨rfl, hrc, h8⟩ := hcond
          have hmem : M' ∈ mt := List.mem_of_getElem? hMc
          obtain ⟨k1, k2, k3, k4, k5, k6, k7, k8, k9, k10, k11, k12, k13⟩ := hMs M' hmem
          obtain ⟨v, vr, e1, e2, e3, e4, e5⟩ := b_split hSt hdrop
          have hck : (match mt[k]? with
            | some M => ai_w tt (.methodLink (m_own _) x (m_y M))
            | none => false) = true := hck
          rw [hMc] at hck
          have key : ∀ (a : Addr), v = .ref a → (∃ cell : Cell, H[a]? = some cell ∧ cell.vm.isStatics = false ∧ s.vm.findClass (m_own M') = some cell.cls) → Cond.instanceMethod (m_y M') ∈ m_G → Cond.selects (m_own M') (m_y M') (m_y M') ∈ m_G → m_hh M' = [] →
              (3 : Nat) = 3 ∧ mt[k]? = some M' ∧ ∃ (vr av : List Value), b_S B nu rest vr ∧ b_S B nu (xo :: (st.take (m_n M')).reverse) av ∧ ∀ (C' : BT) (np : List Int), b_CT mt l D B C' → t_mi C' = k → bs_ok np g (t_s C') → b_S B np (t_as C') av → (([k, tt] : List Nat).length ≠ 3 ∨ bm_nx C' = true) → t_d C' + 1 ≤ t_d T → cells + t_mc C' ≤ R.cells → slots + 6 * t_mc C' ≤ R.slots →
              vx_Run p l e R s m args below meth c H locs cells slots (t_mc C') (6 * t_mc C') (F0 m pc ls vs) vr (b_Q D B (t_os C') (t_md C') np g (va_A (bw B g) H.size) av.toArray) (b_X D B (t_os C') (t_md C') np g (va_A (bw B g) H.size)) (va_A (bw B g) H.size) := by
            intro a hva hcell q1 q2 q4
            subst hva
            refine ⟨rfl, hMc, vr, .ref a :: (vs.take (m_n M')).reverse, e4, ⟨e3, e5⟩, fun C' np hC hk hnp hSa hnx hdd hc hs => ?_⟩
            refine vx_runV (Ts := m_G) (C := m_own M') (ws := m_ws M') (rm := ai_rm (t_d C') (t_mc C') (6 * t_mc C')) (Pc := b_Pc D B g H.size (.ref a :: (vs.take (m_n M')).reverse)) (n := m_n M') ⟨hx, hb, hml, hown, hts⟩ (hC M' (by rw [hk]; exact hMc) np g H.size _ hnp c3 hSa)
              (cwV (m_n M') hts (m_good ?_) (by unfold m_ws m_head; rw [if_pos q4]) rfl rfl ⟨k2, by rw [k2]; exact k3, by rw [k2]; exact k4, k5⟩ (hRoom M' C' k6 hdd))
              ⟨b_Pc_blind, hcell, b_pre hE hA c5 c6 c7 _⟩ rfl e2 hl.1 e1 (lv_room (by rw [b_S_sum e4]; exact h8)) hd ⟨hc, hs⟩
            intro w hw
            unfold wsV at hw
            rcases List.mem_append.mp hw with hw | hw
            · simp only [List.mem_cons, List.not_mem_nil, or_false] at hw
              rcases hw with rfl | rfl | rfl | rfl
              · exact ai_w_G hck
              · exact q1
              · exact q2
              · exact k8
            · rcases List.mem_cons.mp hw with rfl | hw
              · exact k7
              · exact hw
          unfold bm_rc at hrc
          split at hrc
          · next o =>
            obtain ⟨P, hv1, hp, hP2, hat⟩ := e3
            split at hrc
            · next q hq =>
              have hrc := of_decide_eq_true hrc
              obtain ⟨ci, fs⟩ := q
              obtain ⟨hr0, hr1⟩ := hrc
              have hr1 : ci = m_ci M' := hr1
              subst hr1
              obtain ⟨q1, q2, q3, q4⟩ := k10 hr0
              have hq2 : bk_tab[bk_at P]? = some (.inl (m_ci M', fs)) := by rw [hat]; exact hq
              have hw : (bw B g)[P]? = some (b_ad B P, .inr (m_ci M', bw_fs B (g P) P fs)) := by rw [bw_get B g hP2, bw_o hq2]
              cases hrow : vwCl[m_ci M']? with
              | none => rw [hrow] at q3; cases q3
              | some row =>
                rw [hrow] at q3
                have q3 : row.1 = m_own M' := Option.some.inj q3
                obtain ⟨cell, g1, g2, g3⟩ := va_recv hG.1 c5 hrow hw
                exact key _ hv1 ⟨cell, g1, g2, by rw [← q3]; exact g3⟩ q1 q2 q4
            · cases hrc
          · next n =>
            have hrc := of_decide_eq_true hrc
            obtain ⟨hr0, hr1, hr2⟩ := hrc
            obtain ⟨q1, q2, q3, q4⟩ := k12 hr0
            obtain ⟨j, rfl⟩ : ∃ j, n = 100 + j := ⟨n - 100, by omega⟩
            have hv1 : bv_X B (100 + j) v := e3
            unfold bv_X at hv1
            rw [if_neg (by omega), if_neg (by omega)] at hv1
            obtain ⟨cell, g1, g2, g3⟩ := vk_recv hE.2.2.2.2.1 (i := j) (by omega) c7
            exact key _ hv1 ⟨cell, g1, g2, by rw [q3]; exact g3⟩ q1 q2 q4
          · cases hrc
        · cases hcall
      · cases hcall
    · cases hcall
  · next x k' tt =>
    split at hcall
    · next Mc hMc =>
      split at hcall
      · next hcond =>
        cases hcall
        obtain ⟨rfl, hr0, hn, h8⟩ := hcond
        have hmem : M' ∈ mt := List.mem_of_getElem? hMc
        obtain ⟨k1, k2, k3, k4, k5, k6, k7, k8, k9, k10, k11, k12, k13⟩ := hMs M' hmem
        have q1 := k11 hr0
        have e5 := b_S_rev (b_S_take (m_n M') hSt)
        have e4 := b_S_drop (m_n M') hSt
        have e1 : vs = (vs.take (m_n M')).reverse.reverse ++ vs.drop (m_n M') := by rw [List.reverse_reverse, List.take_append_drop]
        have e2 : (vs.take (m_n M')).reverse.length = m_n M' := by
          rw [List.length_reverse, List.length_take, ← b_S_len hSt]
          exact Nat.min_eq_left hn
        have hck : (match mt[k]? with
          | some M => ai_w tt (.methodLink (m_own _) x (m_y M))
          | none => false) = true := hck
        rw [hMc] at hck
        have hgood : GoodIn m_G (va_wsS (m_own M) x (m_y M') (m_ws M')) := m_good (by
          intro w hw
          unfold va_wsS at hw
          rcases List.mem_append.mp hw with hw | hw
          · simp only [List.mem_cons, List.not_mem_nil, or_false] at hw
            rcases hw with rfl | rfl | rfl
            · exact ai_w_G hck
            · exact q1
            · rw [k2]; exact k8
          · rcases List.mem_cons.mp hw with rfl | hw
            · exact k7
            · exact hw)
        refine ⟨rfl, hMc, vs.drop (m_n M'), (vs.take (m_n M')).reverse, e4, e5, fun C' np hC hk hnp hSa hnx hdd hc hs => ?_⟩
        by_cases hh : m_hh M' = []
        · exact vx_runS (Ts := m_G) (ws := m_ws M') (rm := ai_rm (t_d C') (t_mc C') (6 * t_mc C')) (Pc := b_Pc D B g H.size (vs.take (m_n M')).reverse) (n := m_n M') ⟨hx, hb, hml, hown, hts⟩ (hC M' (by rw [hk]; exact hMc) np g H.size _ hnp c3 hSa)
            (va_cwS (m_n M') hts hgood (by unfold m_ws m_head; rw [if_pos hh]) rfl rfl ⟨by rw [k2]; exact k3, by rw [k2]; exact k4, k5⟩ (hRoom M' C' k6 hdd))
            ⟨b_Pc_blind, b_pre hE hA c5 c6 c7 _⟩ rfl e2 hl.1 e1 (lv_room (by rw [b_S_sum e4]; exact h8)) hd ⟨hc, hs⟩
        · exact vx_runSX (hh := m_hh M') (Ts := m_G) (ws := m_ws M') (rm := ai_rm (t_d C') (t_mc C') (6 * t_mc C')) (Pc := b_Pc D B g H.size (vs.take (m_n M')).reverse) (n := m_n M') ⟨hx, hb, hml, hown, hts⟩ (hC M' (by rw [hk]; exact hMc) np g H.size _ hnp c3 hSa)
            (vx_cwSW (m_n M') hts hgood (by unfold m_ws m_head; rw [if_neg hh]) rfl rfl ⟨by rw [k2]; exact k3, by rw [k2]; exact k4, k5⟩ (hRoom M' C' k6 hdd))
            ⟨b_Pc_blind, b_pre hE hA c5 c6 c7 _⟩ rfl e2 hl.1 e1 (lv_room (by rw [b_S_sum e4]; exact h8)) hd ⟨hc, hs⟩
      · cases hcall
    · cases hcall
  · next x k' tt zz =>
    split at hcall
    · next Mc hMc =>
      split at hcall
      · next hcond =>
        cases hcall
        obtain ⟨rfl, hr0, hn, h8, hh⟩ := hcond
        have hmem : M' ∈ mt := List.mem_of_getElem? hMc
        obtain ⟨k1, k2, k3, k4, k5, k6, k7, k8, k9, k10, k11, k12, k13⟩ := hMs M' hmem
        have q1 := k11 hr0
        have e5 := b_S_rev (b_S_take (m_n M') hSt)
        have e4 := b_S_drop (m_n M') hSt
        have e1 : vs = (vs.take (m_n M')).reverse.reverse ++ vs.drop (m_n M') := by rw [List.reverse_reverse, List.take_append_drop]
        have e2 : (vs.take (m_n M')).reverse.length = m_n M' := by
          rw [List.length_reverse, List.length_take, ← b_S_len hSt]
          exact Nat.min_eq_left hn
        have hck : (match mt[k]? with
          | some M' => ai_wb tt (.methodLinkNest (m_own M) x (m_y M') "MountYard")
          | none => false) = true := hck4
        rw [hMc] at hck
        have hnw : va_Nw (.methodLinkNest (m_own M) x (m_y M') "MountYard") s := hG.2.2.1 _ (ai_wb_ok hck) rfl
        refine ⟨rfl, hMc, vs.drop (m_n M'), (vs.take (m_n M')).reverse, e4, e5, fun C' np hC hk hnp hSa hnx hdd hc hs => ?_⟩
        have hnx : bm_nx C' = true := hnx.resolve_left (fun z => z rfl)
        have run := va_runSN (host := "MountYard") (As := (vs.take (m_n M')).reverse) (rest := vs.drop (m_n M')) (bytes := m_cc M') (maxL := m_L M') (ret := m_ret M') (Ts := m_G) (ws := m_ws M') (rm := ai_rm (t_d C') (t_mc C') (6 * t_mc C')) (Pc := b_Pc D B g H.size (vs.take (m_n M')).reverse) (n := m_n M') (below := below) (meth := meth) (cells := cells) (slots := slots) (locs := locs) (e := e) (g := F0 m pc ls vs) ⟨hx, hb, hml, hown, hts⟩ (ai_toMet (hC M' (by rw [hk]; exact hMc) np g H.size _ hnp c3 hSa) (fun N st t hX => by
            obtain ⟨o, n, nq, g9, o1, o2, -⟩ := hX
            exact bm_nx_ok hnx o1 o2))
          ⟨va_cnB (m_n M') hts (m_good (fun w hw => by
            rcases List.mem_cons.mp hw with rfl | hw
            · exact k7
            · exact hw)) (by unfold m_ws m_head; rw [if_pos hh]) rfl rfl hnw (hts _ (by rw [k2]; exact k8)) ⟨by rw [k2]; exact k3, by rw [k2]; exact k4, k5⟩ (hRoom M' C' k6 hdd), hts _ q1, trivial⟩
          ⟨b_Pc_blind, b_pre hE hA c5 c6 c7 _⟩ rfl e2 hl.1 e1 (lv_room (by rw [b_S_sum e4]; exact h8)) hd ⟨hc, hs⟩
        exact fun T hT X => Or.inl (run T hT X)
      · cases hcall
    · cases hcall
  · cases hcall
theorem b_after {Q : State → Prop} {dc ds : Nat} {vr : List Value} {os : List BO} {md : List Nat} {np : List Int} {av : Array Value} (run : vx_Run p l e R s m args below meth c H locs cells slots dc ds (F0 m pc ls vs) vr (b_Q D B os md np g (va_A (bw B g) H.size) av) (b_X D B os md np g (va_A (bw B g) H.size)) (va_A (bw B g) H.size)) (hA : ∀ q, s.heap.size ≤ q → A q) (hD : va_D A (bw B g)) (hS : va_S A s.heap H locs)
    (kr : ∀ (o : BO) (ov : Option BV) (v : Option Value) (nq : List Int) (g' : BG) (H' : Heap) (locs' : List Loc), o ∈ os → o.1 = .inl ov → b_O B nq ov v → nu_le np nq → bs_ok nq g' o.2 → bw_ok g' → bg_same md g g' → va_P D vwCl (bw B g') H' → va_D A (bw B g') → va_S A s.heap H' locs' → W p l e R s m args below meth c H' locs' (cells + dc) (slots + ds) Q (F0 m (pc + 3) ls (v.toList ++ vr)))
    (kx : ∀ (o : BO) (n : Nat) (nq : List Int) (g' : BG) (H' : Heap) (locs' : List Loc) (q : Addr) (ce : Cell), o ∈ os → o.1 = .inr n → n < 5 → nu_le np nq → bs_ok nq g' o.2 → bw_ok g' → bg_same md g g' → va_P D vwCl (bw B g') H' → va_D A (bw B g') → va_S A s.heap H' locs' → H'[q]? = some ce → ce.vm = .none → s.vm.findClass (ax_n n) = some ce.cls → vx_W p l e R s m args below meth c H' locs' (cells + dc) (slots + ds) Q (F0 m pc ls vr) q) :
    W p l e R s m args below meth c H locs cells slots Q (F0 m pc ls vs) := by
  have mono := b_Amono hA hD hS
  intro T hT X
  rcases run T hT X with ⟨v, st₀, t, T', L, h0, X', hL, e1, e2, hq, st⟩ | ⟨q, st₀, t, T', L, En, ce, h0, X', hL, e1, e2, hx, hce, hcv, hcl, st⟩
  · obtain ⟨o, ov, v', nq, g', o1, o2, hv, o4, o5, o6, hP, hD', hF, hg, hs⟩ := hq
    cases hv
    obtain ⟨k1, k2, k3⟩ := vx_keep h0 e1 hS (fun q _ h => mono q h) mono hL hF
    obtain ⟨t2, a1, b1⟩ := kr o ov v nq g' T'.heap (locs ++ L) o1 o2 o4 o5 o6 hg hs (by rw [e1]; exact hP) (hD'.weaken (fun _ _ _ h => mono _ h)) k3 T' rfl X'
    exact ⟨t2, st t2 a1, b1⟩
  · obtain ⟨o, n, nq, g', o1, o2, o3, rfl, o5, o6, hP, hD', hF, hg, hs⟩ := hx
    obtain ⟨k1, k2, k3⟩ := vx_keep h0 e1 hS (fun q _ h => mono q h) mono hL hF
    obtain ⟨t2, a1, b1⟩ := kx o n nq g' T'.heap (locs ++ L) q ce o1 o2 o3 o5 o6 hg hs (by rw [e1]; exact hP) (hD'.weaken (fun _ _ _ h => mono _ h)) k3 (by rw [e1]; exact hce) hcv hcl T' rfl X'
    exact ⟨t2, st.trans a1, b1⟩
theorem bm_try_ok {k : Nat} {as : List BV} : ∀ {js : List Nat} {r : BT × List Li × BS}, bm_try cts k as t js = some r → r.1 ∈ cts ∧ t_mi r.1 = k ∧ bu_all t [] (t_as r.1) as (b_rf as) (t_s r.1) = some r.2
  | [], r, h => by cases h
  | j :: js, r, h => by
    have h : (match cts[j]? with
      | some C => if t_mi C = k then (match bu_all t [] (t_as C) as (b_rf as) (t_s C) with
        | some r => some (C, r)
        | none => bm_try cts k as t js) else bm_try cts k as t js
      | none => bm_try cts k as t js) = some r := h
    split at h
    · next C hC =>
      split at h
      · next hk =>
        split at h
        · next q hq =>
          cases h
          exact ⟨List.mem_of_getElem? hC, hk, hq⟩
        · exact bm_try_ok h
      · exact bm_try_ok h
    · exact bm_try_ok h
set_option maxHeartbeats 4000000 in
theorem bm_go_ok (X : b_Fx T M l D B p R s m args meth c A n0 g0 mc ms) (hMs : ∀ M ∈ mt, b_Mk M) (hMh : ai_ckh (m_own M) (m_hh M) (m_hx M) = true) (hcts : ∀ C ∈ cts, b_CT mt l D B C) (C : b_Cf T D B s A n0 g0 mc ms nu g H locs cells slots t al) (hl : lv_has ls (m_L M) lv) (hL : b_L B nu lo lv) (hS : b_S B nu st vs) {i : Instr} {len : Nat} {aux : List Nat}
    (hd : decode (m_cc M) pc = .ok (i, len)) (hck : ai_ck2 mt (m_own M) (m_cc M) (pc, i, len, aux) = true) (hck4 : b_ck4 mt (m_own M) i aux = true) {msr : Option Li} {zb : Option Int} (hz : b_zb nu msr zb) (hY : ∀ h ∈ t_hs T, b_HY T M l D B p e R s m args below meth c A n0 g0 mc ms h zb) {ih : BIH} (S : b_SN T M l D B p e R s m args below meth c A n0 g0 mc ms msr ih)
    (h : bm_go mt cts T M ih pc i len aux lo st t al = true) : W p l e R s m args below meth c H locs cells slots (b_PQ T D B s args below A n0 g0 mc ms) (F0 m pc ls vs) := by
  unfold bm_go at h
  split at h
  · next q hq =>
    obtain ⟨k, M', as, rest⟩ := q
    split at h
    · next js hjs =>
      split at h
      · next r hr =>
        obtain ⟨C', th, t'⟩ := r
        obtain ⟨hC1, hC2, hC3⟩ := bm_try_ok hr
        simp only [Bool.and_eq_true, Bool.or_eq_true, decide_eq_true_eq] at h
        obtain ⟨⟨h0, h1⟩, h2, h3, h4, h5⟩ := h
        obtain ⟨hlen, hMk, vr, av, hvr, hav, run⟩ := b_callrun (e := e) (below := below) X C hl hS hd hck hck4 hq hMs
        have X' := X
        have C0 := C
        obtain ⟨⟨hx, hb, hml, hown, hr0, hlocks, hini, htab, hT, hG, htr⟩, hE, hA, -, -, hfr, hlo, hRc, hRs, -⟩ := X
        obtain ⟨c1, c2, c3, c4, c5, c6, c7, a, c8, c9, c10⟩ := C
        obtain ⟨nv, np, q1, q2, q3, q4, q5, q6⟩ := bu_all_ok (B := B) c4 c3 li_T.nil (b_rf_ok hav) hC3 hav
        have ha1 := bs_ge_ok q2 h4 (li_e_sh (-(t_mc C' : Int)) (li_e_mono q1 c8))
        have run := run C' np (hcts C' hC1) hC2 q6 q5 h0 h1 (by omega) (by omega)
        have next : ∀ (o : BO) (nq : List Int) (g' : BG) (H' : Heap) (locs' : List Loc), o ∈ t_os C' → nu_le np nq → bs_ok nq g' o.2 → bw_ok g' → bg_same (t_md C') g g' → va_P D vwCl (bw B g') H' → va_D A (bw B g') → va_S A s.heap H' locs' → ∃ nw, nu_le nu nw ∧ li_T nw (bo_th t' th o) nq ∧ ∀ ss, bo_st (t_md C') t' th o = some ss → ∃ t2, t2 ∈ ss ∧ b_Cf T D B s A n0 g0 mc ms nw g' H' locs' (cells + t_mc C') (slots + 6 * t_mc C') t2 (li_sh (-(t_mc C' : Int)) al) := by
          intro o nq g' H' locs' ho hnq hbs hg' hsm hP' hD' hS'
          obtain ⟨nw, w1, w2, w3⟩ := bo_ok q2 q3 hnq hbs hsm
          refine ⟨nw, q1.tr w1, w2, fun ss hss => ?_⟩
          obtain ⟨t2, t21, t22⟩ := w3 ss hss
          refine ⟨t2, t21, c1.tr (q1.tr w1), c2.tr (hsm.sub (fun z hz => of_decide_eq_true (List.all_eq_true.mp h3 z hz))), hg', t22, hP', hD', hS', a - t_mc C', ?_, by omega, by omega⟩
          have := li_e_sh (-(t_mc C' : Int)) (li_e_mono (q1.tr w1) c8)
          rw [this]
          exact congrArg some (by omega)
        subst hlen
        refine b_after run hA c6 c7 (fun o ov v nq g' H' locs' ho ho1 hO hnq hbs hg' hsm hP' hD' hS' => ?_) (fun o n nq g' H' locs' qa ce ho ho1 hn5 hnq hbs hg' hsm hP' hD' hS' hcell hcv hcl => ?_)
        · obtain ⟨nw, w1, w2, w3⟩ := next o nq g' H' locs' ho hnq hbs hg' hsm hP' hD' hS'
          have h6 := List.all_eq_true.mp h5 o ho
          unfold bm_oc at h6
          split at h6
          · next ws ss hw1 hw2 =>
            obtain ⟨t2, t21, t22⟩ := w3 ss hw2
            have hrest : b_S B nw (ws ++ rest) (v.toList ++ vr) := by
              refine b_S_app ?_ (hvr.mono w1)
              unfold bo_vl at hw1
              rw [ho1] at hw1
              match ov, v, hO, hw1 with
              | none, none, _, hw1 => cases hw1; exact trivial
              | some x, some y, hO, hw1 =>
                dsimp only at hw1
                split at hw1
                · next w hw =>
                  cases hw1
                  exact ⟨bu_sv_ok w2 hw hO, trivial⟩
                · cases hw1
              | none, some _, hO, _ => exact hO.elim
              | some _, none, hO, _ => exact hO.elim
            exact S false (pc + 3) lo _ t2 _ (List.all_eq_true.mp h6 t2 t21) nw g' H' locs' _ _ ls lv _ zb t22 hl (hL.mono w1) hrest (hz.mono w1) hY
          · next n ss hw1 hw2 =>
            unfold bo_vl at hw1
            rw [ho1] at hw1
            match ov, hw1 with
            | none, hw1 => cases hw1
            | some x, hw1 =>
              dsimp only at hw1
              split at hw1 <;> cases hw1
          · cases h6
        · obtain ⟨nw, w1, w2, w3⟩ := next o nq g' H' locs' ho hnq hbs hg' hsm hP' hD' hS'
          have h6 := List.all_eq_true.mp h5 o ho
          unfold bm_oc at h6
          split at h6
          · next ws ss hw1 hw2 =>
            unfold bo_vl at hw1
            rw [ho1] at hw1
            cases hw1
          · next n' ss hw1 hw2 =>
            unfold bo_vl at hw1
            rw [ho1] at hw1
            cases hw1
            obtain ⟨t2, t21, t22⟩ := w3 ss hw2
            split at h6
            · next hp hh =>
              obtain ⟨pre, x, suf, g1, g2, g3, g4, g5, g6⟩ := ai_hnd_ok hT hG.2.2.2 hn5 hMh hh
              refine vx_catch hown pre x suf (htab.trans g1) g2 g3 g4 g5 (va_Nw.use rfl (hG.2.2.1 _ (ai_cast n hn5) rfl)) hcell hcv hcl ?_
              rw [g6]
              exact S false hp lo _ t2 _ (List.all_eq_true.mp h6 t2 t21) nw g' H' locs' _ _ ls lv _ zb t22 hl (hL.mono w1) ⟨⟨qa, rfl⟩, trivial⟩ (hz.mono w1) hY
            · rw [Bool.and_eq_true, decide_eq_true_eq] at h6
              obtain ⟨o', nq', o1, o2, o3, o4⟩ := bm_out_x X' t22 (List.all_eq_true.mp h6.2 t2 t21)
              refine vx_out (by intro z hz; rw [htab, h6.1] at hz; cases hz) hlocks hcell hcv hcl (fun t3 ht ha => ⟨o', n, nq', g', o1, o2, hn5, rfl, o3, o4, b_evd t22 ht⟩) hS'.2.2 (by omega) (by omega)
          · cases h6
      · cases h
    · cases h
  · cases h
set_option maxHeartbeats 4000000 in
theorem bm_body_ok (X : b_Fx T M l D B p R s m args meth c A n0 g0 mc ms) (hMs : ∀ M ∈ mt, b_Mk M) (hM2 : b_mok2 mt M = true) (hMh : ai_ckh (m_own M) (m_hh M) (m_hx M) = true) (hcts : ∀ C ∈ cts, b_CT mt l D B C) (hAl : ∀ h ∈ t_hs T, bs_ge h.2.2.1 h.2.2.2.2.1 = true) {msr : Option Li} {ih : BIH} (S : b_SN T M l D B p e R s m args below meth c A n0 g0 mc ms msr ih) :
    b_SN T M l D B p e R s m args below meth c A n0 g0 mc ms msr (bm_body mt cts T M msr ih) := by
  intro fst pc lo st t al hrun nu g H locs cells slots ls lv vs zb C hl hL hS hz hY
  have X' := X
  have C0 := C
  obtain ⟨⟨hx, hb, hml, hown, hr0, hlocks, hini, htab, hT, hG, htr⟩, hE, hA, -, -, hfr, hlo, hRc, hRs, -⟩ := X
  obtain ⟨c1, c2, c3, c4, c5, c6, c7, -⟩ := C
  unfold bm_body at hrun
  split at hrun
  · next h1 hs1 hh =>
    have hh2 : (t_hs T).filter (fun h => h.1 == pc) = h1 :: hs1 := by
      cases fst with
      | true => cases hh
      | false => exact hh
    obtain ⟨h, hin, hrun⟩ := List.any_eq_true.mp hrun
    rw [← hh2] at hin
    obtain ⟨hmem, hpc⟩ := List.mem_filter.mp hin
    have hpc : h.1 = pc := beq_iff_eq.mp hpc
    rw [← hpc]
    exact bm_hd_ok X' hAl C0 hl hL hS hz hmem hrun (hY h hmem)
  split at hrun
  · cases hrun
  next q hq =>
  have hmem : q ∈ m_code M := List.mem_of_find?_eq_some hq
  have hpc : q.1 = pc := by have := List.find?_some hq; exact beq_iff_eq.mp this
  obtain ⟨qpc, i, len, aux⟩ := q
  have hpc : qpc = pc := hpc
  subst hpc
  have hrow := List.all_eq_true.mp hM2 _ hmem
  unfold b_row ai_row at hrow
  simp only [Bool.and_eq_true, decide_eq_true_eq] at hrow
  obtain ⟨⟨⟨⟨hd, hchk⟩, hck2⟩, hck3⟩, hck4⟩ := hrow
  dsimp only at hrun hd hchk hck3 hck4
  split at hrun
  · next rs h1 =>
    exact bm_pu_ok hx hb hd hl hL c4 hS h1 (fun r hr nv ls' lv' vs' a1 a2 a3 a4 a5 => S false r.1 r.2.1 r.2.2.1 r.2.2.2 al (List.all_eq_true.mp hrun r hr) nv g H locs cells slots ls' lv' vs' zb (C0.up a1 a2) a3 a4 a5 (hz.mono a1) hY)
  split at hrun
  · next r h1 =>
    exact b_h1_ok hx hb hown hT hG.1 hd hchk hE.2.2.1 c3 c4 c5 hS h1 (fun nv vs' a1 a2 a3 => S false _ lo r.1 r.2 al hrun nv g H locs cells slots ls lv vs' zb (C0.up a1 a2) hl (hL.mono a1) a3 (hz.mono a1) hY)
  split at hrun
  · next r h1 =>
    exact b_h2_ok hx hb hown hT hG.1 hd hchk hE.2.2.1 c3 c4 c5 c6 c7 hS h1 (fun g' H' locs' vs' a1 a2 a3 a4 a5 a6 a7 => S false _ lo r.1 r.2 al hrun nu g' H' locs' cells slots ls lv vs' zb (C0.wr a1 a2 a3 a4 a5 a6) hl hL a7 hz hY)
  split at hrun
  · next ov h1 => exact bm_ret_ok X' C0 hS hd h1 hrun
  split at hrun
  · next rs h1 =>
    exact b_j1_ok hx hb hown hT hd hck3 hE.2.2.2.1 hE.2.2.2.2 c7 c4 hS h1 (fun r hr nv vs' a1 a2 a3 => S false _ lo r.1 r.2 al (List.all_eq_true.mp hrun r hr) nv g H locs cells slots ls lv vs' zb (C0.up a1 a2) hl (hL.mono a1) a3 (hz.mono a1) hY)
  split at hrun
  · next r h1 =>
    exact b_j2_ok hx hb (hml.trans hl.1.symm) hown hT hG.1 hd hck3 hE.2.2.1 c3 c4 c5 c6 c7 hS hfr hlo h1 (fun g' H' locs' vs' a1 a2 a3 a4 a5 a6 a7 => S false _ lo r.1 r.2 al hrun nu g' H' locs' cells slots ls lv vs' zb (C0.wr a1 a2 a3 a4 a5 a6) hl hL a7 hz hY)
  split at hrun
  · next rs h1 =>
    obtain ⟨-, -, -, -, -, -, -, a, -, c9, c10⟩ := id C0
    exact b_j3_ok hx hb (hml.trans hl.1.symm) hown hT hd hck3 c4 hS hfr hlo (by omega) (by omega) h1 (fun r hr vs' a2 a3 => S false _ lo r.1 r.2 al (List.all_eq_true.mp hrun r hr) nu g H locs cells slots ls lv vs' zb (C0.up nu_le.rf a2) hl hL a3 hz hY)
  split at hrun
  · next r h1 =>
    exact bm_sc_ok X' C0 hS hd h1 (fun nv vs' a1 a2 a3 => S false _ lo r.1 r.2 al hrun nv g H locs cells slots ls lv vs' zb (C0.up a1 a2) hl (hL.mono a1) a3 (hz.mono a1) hY)
  split at hrun
  · next n h1 =>
    rw [Bool.and_eq_true] at hrun
    exact bm_th_ok X' C0 hl hS hd hck2 h1 hrun.1 hrun.2
  exact bm_go_ok X' hMs hMh hcts C0 hl hL hS hd hck2 hck4 hz hY S hrun
theorem bm_run_ok (X : b_Fx T M l D B p R s m args meth c A n0 g0 mc ms) (hMs : ∀ M ∈ mt, b_Mk M) (hM2 : b_mok2 mt M = true) (hMh : ai_ckh (m_own M) (m_hh M) (m_hx M) = true) (hcts : ∀ C ∈ cts, b_CT mt l D B C) (hAl : ∀ h ∈ t_hs T, bs_ge h.2.2.1 h.2.2.2.2.1 = true) {msr : Option Li} : ∀ fuel : Nat, b_SN T M l D B p e R s m args below meth c A n0 g0 mc ms msr (bm_run mt cts T M msr fuel)
  | 0 => fun _ _ _ _ _ _ h => by cases h
  | f + 1 => bm_body_ok X hMs hM2 hMh hcts hAl (bm_run_ok X hMs hM2 hMh hcts hAl f)
/-- every head holds, by its measure -/
theorem b_heads (X : b_Fx T M l D B p R s m args meth c A n0 g0 mc ms) (hMs : ∀ M ∈ mt, b_Mk M) (hM2 : b_mok2 mt M = true) (hMh : ai_ckh (m_own M) (m_hh M) (m_hx M) = true) (hcts : ∀ C ∈ cts, b_CT mt l D B C) {fuel : Nat}
    (hH : ∀ h ∈ t_hs T, bs_ge h.2.2.1 h.2.2.2.1 = true ∧ bs_ge h.2.2.1 h.2.2.2.2.1 = true ∧ ∀ s ∈ bm_spl h, bm_run mt cts T M (some h.2.2.2.1) fuel true h.1 h.2.1 [] s h.2.2.2.2.1 = true) : ∀ (n : Nat) (z0 : Int), z0 ≤ (n : Int) → ∀ h ∈ t_hs T, b_HY T M l D B p e R s m args below meth c A n0 g0 mc ms h (some z0) := by
  intro n
  induction n with
  | zero =>
    intro z0 hz0 h hh nu g H locs cells slots ls lv C hl hL hm
    obtain ⟨h1, h2, h3⟩ := hH h hh
    obtain ⟨c1, c2, c3, c4, -⟩ := id C
    obtain ⟨z, hz, hm⟩ := hm
    have := hm z0 rfl
    have := bs_ge_ok c4 h1 hz
    omega
  | succ n ihn =>
    intro z0 hz0 h hh nu g H locs cells slots ls lv C hl hL hm
    obtain ⟨h1, h2, h3⟩ := hH h hh
    obtain ⟨z, hz, hm⟩ := hm
    have := hm z0 rfl
    obtain ⟨t, t1, t2⟩ := bm_spl_ok (h := h) C.2.2.2.1
    exact bm_run_ok X hMs hM2 hMh hcts (fun h hh => (hH h hh).2.1) fuel true h.1 h.2.1 [] t h.2.2.2.2.1 (h3 t t1) nu g H locs cells slots ls lv [] (some z) (C.up nu_le.rf t2) hl hL trivial ⟨z, rfl, hz⟩ (ihn z (by omega))
theorem b_heads0 (X : b_Fx T M l D B p R s m args meth c A n0 g0 mc ms) (hMs : ∀ M ∈ mt, b_Mk M) (hM2 : b_mok2 mt M = true) (hMh : ai_ckh (m_own M) (m_hh M) (m_hx M) = true) (hcts : ∀ C ∈ cts, b_CT mt l D B C) {fuel : Nat}
    (hH : ∀ h ∈ t_hs T, bs_ge h.2.2.1 h.2.2.2.1 = true ∧ bs_ge h.2.2.1 h.2.2.2.2.1 = true ∧ ∀ s ∈ bm_spl h, bm_run mt cts T M (some h.2.2.2.1) fuel true h.1 h.2.1 [] s h.2.2.2.2.1 = true) : ∀ h ∈ t_hs T, b_HY T M l D B p e R s m args below meth c A n0 g0 mc ms h none := by
  intro h hh nu g H locs cells slots ls lv C hl hL hm
  obtain ⟨z, hz, -⟩ := hm
  exact b_heads X hMs hM2 hMh hcts hH (z + 1).toNat (z + 1) (by omega) h hh nu g H locs cells slots ls lv C hl hL ⟨z, hz, fun z0 e => by cases e; omega⟩
end BCR
theorem bm_chk_of {mt : List AM} {cts : List BT} {T : BT} {fuel : Nat} (h : bm_chk mt cts T fuel = true) {M : AM} (hM : mt[t_mi T]? = some M) : ((t_as T).map bv_wd).sum ≤ m_L M ∧ bm_run mt cts T M none fuel true 0 (b_args 0 (t_as T)) [] (t_s T) (li_c (t_mc T : Int)) = true ∧
    ∀ h ∈ t_hs T, bs_ge h.2.2.1 h.2.2.2.1 = true ∧ bs_ge h.2.2.1 h.2.2.2.2.1 = true ∧ ∀ s ∈ bm_spl h, bm_run mt cts T M (some h.2.2.2.1) fuel true h.1 h.2.1 [] s h.2.2.2.2.1 = true := by
  unfold bm_chk at h
  rw [hM] at h
  simp only [Bool.and_eq_true, decide_eq_true_eq, List.all_eq_true] at h
  exact ⟨h.1, h.2.1, fun q hq => h.2.2 q hq⟩
set_option maxHeartbeats 4000000 in
/-- a checked contract holds, if those that it uses do -/
theorem b_ct {mt : List AM} {cts : List BT} {T : BT} {l : Launch} {D : va_G} {B : BE} (htr : l.stackTraces = false) (hMs : ∀ M ∈ mt, b_Mk M) (hM2 : ∀ M ∈ mt, b_mok2 mt M = true) (hcts : ∀ C ∈ cts, b_CT mt l D B C) {fuel : Nat} (hsc : t_sc T = false) (h : bm_chk mt cts T fuel = true) : b_CT mt l D B T := by
  intro M hM n0 g sz av hbs hg hav
  have hmem : M ∈ mt := List.mem_of_getElem? hM
  obtain ⟨h1, h2, h3⟩ := bm_chk_of h hM
  obtain ⟨k1, k2, k3, k4, k5, k6, k7, k8, k9, k10, k11, k12, k13⟩ := hMs M hmem
  have hlen : (lg_sl av).length ≤ m_L M := by rw [ai_sl_len, b_S_sum hav]; exact h1
  have key : ∀ (p : Program) (e : Env) (s : State) (m : MethodId) (args : Array Value) (below : List Frame) (meth : Method) (c : Code) (s₁ : State), BodyLoose p l (m_y M) (headSpec (m_ws M) (ai_rm (t_d T) (t_mc T) (6 * t_mc T))) (m_cc M) (m_L M) (m_ret M) e s m args below meth c s₁ → c.maxLocals = m_L M → c.exceptionTable.toList = tableOf (m_hh M) → b_Pc D B g sz av args s →
      W p l e (headSpec (m_ws M) (ai_rm (t_d T) (t_mc T) (6 * t_mc T))).room s m args below meth c s.heap [] 0 0 (vx_MQ below (b_Q D B (t_os T) (t_md T) n0 g (va_A (bw B g) sz)) (b_X D B (t_os T) (t_md T) n0 g (va_A (bw B g) sz)) args s (t_mc T) (6 * t_mc T) (va_A (bw B g) sz)) (entryFrame m args (m_L M)) := by
    intro p e s m args below meth c s₁ Bd hml htab hP
    obtain ⟨rfl, hsz, hPP, hD, hE⟩ := hP
    subst hsz
    have hts := atoms_spec (ws := m_ws M) Bd.pre
    rw [lg_entry_eq]
    have X : b_Fx T M l D B p (headSpec (m_ws M) (ai_rm (t_d T) (t_mc T) (6 * t_mc T))).room s m av.toArray meth c (va_A (bw B g) s.heap.size) n0 g (t_mc T) (6 * t_mc T) := by
      refine ⟨⟨Bd.exec, Bd.bytes, hml, ?_, Bd.returns, Bd.notSynchronized, ?_, htab, fun w hw hg => hts w (List.mem_cons_of_mem _ (m_G_in hw hg)), hE.1, htr⟩, hE, fun q hq => Or.inr hq, hbs.1.1.symm, b_rf_ok hav, Nat.le_refl _, Nat.le_refl _, Nat.le_refl _, Nat.le_refl _, fun z => by rw [hsc] at z; cases z⟩
      · have := findClass_of_methodNamed Bd.named
        rw [k2] at this
        exact this
      · intro hk
        exact (name_of_methodNamed Bd.named Bd.method).1.trans (k13 hk)
    have C : b_Cf T D B s (va_A (bw B g) s.heap.size) n0 g (t_mc T) (6 * t_mc T) n0 g s.heap [] 0 0 (t_s T) (li_c (t_mc T : Int)) :=
      ⟨nu_le.rf, bg_same.rf, hg, hbs, hPP, hD.self, va_S.rf, t_mc T, li_e_c n0 _, by omega, by omega⟩
    exact bm_run_ok (e := e) (below := below) X hMs (hM2 M hmem) k9 hcts (fun h hh => (h3 h hh).2.1) fuel true 0 _ _ _ _ h2 n0 g s.heap [] 0 0 _ (lv_args 0 av) [] none C (lv_entry av hlen) (b_args_ok 0 hav) trivial rfl (b_heads0 X hMs (hM2 M hmem) k9 hcts h3)
  by_cases hh : m_hh M = []
  · refine vx_ofW (cc := m_cc M) (maxL := m_L M) (ret := m_ret M) (ws' := m_G) (by rw [k2]; exact k1) (by unfold m_ws m_head; rw [if_pos hh]) ?_
    intro p e s m args below meth c s₁ Bd hml hempty hP
    exact key p e s m args below meth c s₁ Bd hml (by rw [hh]; exact List.eq_nil_iff_forall_not_mem.mpr hempty) hP
  · refine vx_ofWH (cc := m_cc M) (maxL := m_L M) (ret := m_ret M) (hh := m_hh M) (ws' := m_G) (by rw [k2]; exact k1) (by unfold m_ws m_head; rw [if_neg hh]) ?_
    intro p e s m args below meth c s₁ Bd hml hP
    have hts := atoms_spec (ws := m_ws M) Bd.pre
    have hc := hts (m_head M) List.mem_cons_self
    unfold m_head at hc
    rw [if_neg hh] at hc
    exact key p e s m args below meth c s₁ Bd hml (vx_table (x := m_y M) Bd hc) hP
