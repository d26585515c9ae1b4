/-! ===== every run is sound ===== -/
theorem ai_add_ok {c s : Nat} {x : Option AR} {r : AR} (h : ai_add c s x = some r) : ∃ y : AR, x = some y ∧ r.1 = y.1 ∧ r.2.1 = y.2.1 ∧ r.2.2.1 = c + y.2.2.1 ∧ r.2.2.2 = s + y.2.2.2 := by
  unfold ai_add at h
  split at h
  · next y => cases h; exact ⟨y, rfl, rfl, rfl, rfl, rfl⟩
  · cases h
theorem ai_call_mem {mt : List AM} {i : Instr} {len : Nat} {aux : List Nat} {st : List AV} {σ : List AC} {r : AM × List AV × List AV} (h : ai_call mt i len aux st σ = some r) : r.1 ∈ mt := by
  unfold ai_call at h
  split at h
  · split at h
    · next M hM =>
      split at h
      · split at h
        · split at h
          · cases h; exact List.mem_of_getElem? hM
          · cases h
        · cases h
      · cases h
    · cases h
  · split at h
    · next M hM =>
      split at h
      · cases h; exact List.mem_of_getElem? hM
      · cases h
    · cases h
  · split at h
    · next M hM =>
      split at h
      · split at h
        · split at h
          · cases h; exact List.mem_of_getElem? hM
          · cases h
        · cases h
      · cases h
    · cases h
  · split at h
    · next M hM =>
      split at h
      · split at h
        · split at h
          · cases h; exact List.mem_of_getElem? hM
          · cases h
        · cases h
      · cases h
    · cases h
  · cases h
section ASD
variable {mt : List AM} {l : Launch} {D : va_G} {E : AE}
variable {p : Program} {e : Env} {R : Room} {s : State} {m : MethodId} {args : Array Value} {below : List Frame} {meth : Method} {c : Code} {H : Heap} {locs : List Loc} {cells slots : Nat} {pc : Nat} {ls : Array Slot} {ws ws0 : va_W} {vs : List Value} {σ : List AC} {A : Nat → Prop} {Q : State → Prop}
theorem ai_after {dc ds : Nat} {vr : List Value} {o : Option AV ⊕ Nat} {σ' : List AC} {av : Array Value} (run : vx_Run p l e R s m args below meth c H locs cells slots dc ds (F0 m pc ls vs) vr (ai_Q E D o σ' ws (va_A ws H.size) av) (ai_X E D o σ' ws (va_A ws H.size)) (va_A ws H.size)) (hA : ∀ q, s.heap.size ≤ q → A q) (hD : va_D A ws) (hS : va_S A s.heap H locs)
    (kr : ∀ (ov : Option AV) (v : Option Value) (ws' : va_W) (H' : Heap) (locs' : List Loc), o = .inl ov → ai_O E ws' ov v → ai_W E s σ' ws' → ai_Ext ws ws' → va_P D vwCl ws' H' → va_D A ws' → va_S A s.heap H' locs' → W p l e R s m args below meth c H' locs' (cells + dc) (slots + ds) Q (F0 m (pc + 3) ls (v.toList ++ vr)))
    (kx : ∀ (n : Nat) (ws' : va_W) (H' : Heap) (locs' : List Loc) (q : Addr) (ce : Cell), o = .inr n → ai_W E s σ' ws' → ai_Ext ws ws' → va_P D vwCl ws' H' → va_D A ws' → va_S A s.heap H' locs' → H'[q]? = some ce → ce.vm = .none → s.vm.findClass (ax_n n) = some ce.cls → vx_W p l e R s m args below meth c H' locs' (cells + dc) (slots + ds) Q (F0 m pc ls vr) q) :
    W p l e R s m args below meth c H locs cells slots Q (F0 m pc ls vs) := by
  have mono := ai_mono (σ := []) (D := D) hD hS hA
  intro T hT X
  rcases run T hT X with ⟨v, st₀, t, T', L, h0, X', hL, e1, e2, hq, st⟩ | ⟨q, st₀, t, T', L, En, ce, h0, X', hL, e1, e2, hx, hce, hcv, hcl, st⟩
  · obtain ⟨ov, v', ws', ho, hv, hO, hW, hEx, hP, hD', hF⟩ := hq
    cases hv
    obtain ⟨k1, k2, k3⟩ := vx_keep h0 e1 hS (fun q _ h => mono q h) mono hL hF
    have ha : s.vm.Alike t.vm := by rw [← e2]; exact X'.warmed.alike
    obtain ⟨t2, a1, b1⟩ := kr ov v ws' T'.heap (locs ++ L) ho hO (hW.moved ha.symm) hEx (by rw [e1]; exact hP) (hD'.weaken (fun _ _ _ h => mono _ h)) k3 T' rfl X'
    exact ⟨t2, st t2 a1, b1⟩
  · obtain ⟨n, ws', ho, rfl, hW, hEx, hP, hD', hF⟩ := hx
    obtain ⟨k1, k2, k3⟩ := vx_keep h0 e1 hS (fun q _ h => mono q h) mono hL hF
    have ha : s.vm.Alike t.vm := by rw [← e2]; exact X'.warmed.alike
    obtain ⟨t2, a1, b1⟩ := kx n ws' T'.heap (locs ++ L) q ce ho (hW.moved ha.symm) hEx (by rw [e1]; exact hP) (hD'.weaken (fun _ _ _ h => mono _ h)) k3 (by rw [e1]; exact hce) hcv hcl T' rfl X'
    exact ⟨t2, st.trans a1, b1⟩
end ASD
theorem ai_toS {E : AE} {ws : va_W} {o : Option AV} {v : Option Value} {a : List AV} {x : List Value} (h : ai_O E ws o v) (k : ai_S E ws a x) : ai_S E ws (o.toList ++ a) (v.toList ++ x) := by
  match o, v, h with
  | none, none, _ => exact k
  | some _, some _, h => exact ⟨h, k⟩
set_option maxHeartbeats 4000000 in
/-- one step of the run is sound, if what it goes on with is -/
theorem ai_body_ok {mt : List AM} {l : Launch} {D : va_G} {E : AE} {ext : AXT} {op : Option Int32} {ih : AIH} (htr : l.stackTraces = false) (hop : ∀ k, op = some k → e_0 E &&& 15 = k) (hM1 : ∀ M ∈ mt, ai_Mk M) (hM2 : ∀ M ∈ mt, ai_mok2 mt M = true)
    (hext : ∀ (M : AM) (as : List AV) (σ : List AC) (d : Nat) (r : AR), M ∈ mt → ext d M as σ = some r → ai_CT l D E M as σ d r ∧ ∀ n, r.1 = .inr n → n < 5) (hih5 : ∀ sc d M pc lo st σ (r : AR), ai_Wk mt M → ih sc d M pc lo st σ = some r → ∀ n, r.1 = .inr n → n < 5) (S : ai_SND mt l D E ih) :
    ai_SND mt l D E (ai_body ext mt op ih) := by
  intro sc d M pc lo st σ r hMm hrun p e R s m args below meth c ws0 A ws H locs ls lv vs cells slots mc ms F hsc hA hZ hE hW hP hD hS hl hL hSt hfr hlo hc hs hRc hRs
  obtain ⟨hx, hb, hml, hown, hr, hlocks, hini, htab, hT, hG, -⟩ := id F
  unfold ai_body at hrun
  split at hrun
  · cases hrun
  next q hq =>
  have hmem : q ∈ m_code M := List.mem_of_find?_eq_some hq
  have hpc : q.1 = pc := by have := List.find?_some hq; exact beq_iff_eq.mp this
  obtain ⟨qpc, i, len, aux⟩ := q
  have hpc : qpc = pc := hpc
  subst hpc
  have hrow := List.all_eq_true.mp hMm.1 _ hmem
  unfold ai_row at hrow
  simp only [Bool.and_eq_true, decide_eq_true_eq] at hrow
  obtain ⟨⟨hd, hchk⟩, hck2⟩ := hrow
  dsimp only at hrun hd hchk
  split at hrun
  · next r1 h1 =>
    exact ai_pu_ok hop hx hb hd hl hL hSt h1 (fun ls' lv' vs' hl' hL' hS' => S sc d M r1.1 r1.2.1 r1.2.2 σ r hMm hrun p e R s m args below meth c ws0 A ws H locs ls' lv' vs' cells slots mc ms F hsc hA hZ hE hW hP hD hS hl' hL' hS' hfr hlo hc hs hRc hRs)
  split at hrun
  · next st' h1 =>
    exact ai_h1_ok hx hb hown hT hG.1 hd hchk hW hP hSt h1 (fun vs' hS' => S sc d M _ lo st' σ r hMm hrun p e R s m args below meth c ws0 A ws H locs ls lv vs' cells slots mc ms F hsc hA hZ hE hW hP hD hS hl hL hS' hfr hlo hc hs hRc hRs)
  split at hrun
  · next r2 h2 =>
    exact ai_h2_ok (st' := r2.1) (σ' := r2.2) (fun hi => hini (of_decide_eq_true hi)) hx hb hown hT hG.1 hd hchk hW hP hD hS hSt h2 (fun ws' H' locs' vs' hE' hW' hP' hD' hS' hSt' => S sc d M _ lo r2.1 r2.2 r hMm hrun p e R s m args below meth c ws0 A ws' H' locs' ls lv vs' cells slots mc ms F hsc hA hZ (hE.tr hE') hW' hP' hD' hS' hl (hL.mono hE') hSt' hfr hlo hc hs hRc hRs)
  split at hrun
  · next r3 h3 =>
    obtain ⟨y, hy, y1, y2, y3, y4⟩ := ai_add_ok hrun
    rw [y1, y2]
    exact ai_h3_ok (st' := r3.1) (ce := r3.2.1) (ds := r3.2.2) hx hb hown hT hG.2.1 hG.1 hd hchk hW hP hD hS hA hSt h3 (by omega) (by omega) (fun ws' H' vs' hE' hW' hP' hD' hS' hSt' => S sc d M _ lo _ _ y hMm hy p e R s m args below meth c ws0 A ws' H' locs ls lv vs' (cells + 1) (slots + r3.2.2) mc ms F hsc hA hZ (hE.tr hE') hW' hP' hD' hS' hl (hL.mono hE') hSt' hfr hlo (by omega) (by omega) hRc hRs)
  split at hrun
  · next st' h1 =>
    exact ai_sc_ok F hsc hS hSt hd h1 (fun vs' hS' => S sc d M _ lo st' σ r hMm hrun p e R s m args below meth c ws0 A ws H locs ls lv vs' cells slots mc ms F hsc hA hZ hE hW hP hD hS hl hL hS' hfr hlo hc hs hRc hRs)
  split at hrun
  · next v h1 =>
    cases hrun
    exact ai_ret_ok F hW hE hP hD hS hSt hd h1 (by omega) (by omega)
  split at hrun
  · next n h1 =>
    cases hrun
    exact (ai_th_ok (mt := mt) F hZ hW hE hP hD hS hl hSt hd hck2 h1 hfr hlo hc hs hRc hRs).2
  split at hrun
  · next st' h1 =>
    split at hrun
    · next hd1 =>
      exact ai_oi_ok (mt := mt) F hl hSt hd hck2 h1 hd1 hfr hlo (fun vs' hS' => S sc d M _ lo st' σ r hMm hrun p e R s m args below meth c ws0 A ws H locs ls lv vs' cells slots mc ms F hsc hA hZ hE hW hP hD hS hl hL hS' hfr hlo hc hs hRc hRs)
    · cases hrun
  split at hrun
  · cases hrun
  next rc hcall =>
  have hmem' := ai_call_mem hcall
  obtain ⟨M', as, rest⟩ := rc
  obtain ⟨d', rfl⟩ : ∃ d', d = d' + 1 := by
    cases d with
    | zero => cases hrun
    | succ k => exact ⟨k, rfl⟩
  dsimp only at hrun
  split at hrun
  case isFalse => cases hrun
  next hn =>
  have got : ∀ y : AR, ai_or (ext d' M' as σ) (ih none d' M' 0 (ai_args 0 as) [] σ) = some y → ai_CT l D E M' as σ d' y ∧ ∀ n, y.1 = .inr n → n < 5 := by
    intro y hy
    rcases ai_or_ok hy with hy | hy
    · exact hext M' as σ d' y hmem' hy
    · exact ⟨ai_ct htr S ⟨hM2 M' hmem', (hM1 M' hmem').2.2.2.2.2.2.2.2.1⟩ (hM1 M' hmem') hy hn, hih5 none d' M' 0 _ _ _ y ⟨hM2 M' hmem', (hM1 M' hmem').2.2.2.2.2.2.2.2.1⟩ hy⟩
  split at hrun
  · cases hrun
  · next v σ1 dc ds hy =>
    obtain ⟨ct, -⟩ := got _ hy
    obtain ⟨y, hy2, y1, y2, y3, y4⟩ := ai_add_ok hrun
    obtain ⟨hlen, -, vr, av, hvr, run⟩ := ai_callrun (below := below) (R := R) (cells := cells) (slots := slots) (e := e) F hZ hA hW hP hD hS hl hSt hd hck2 hcall hM1 ct (fun _ => ⟨v, rfl⟩) hfr hlo (by dsimp only; omega) (by dsimp only; omega)
    have hlen : len = 3 := hlen
    subst hlen
    rw [y1, y2]
    refine ai_after run hA hD hS (fun ov v' ws' H' locs' ho hO hW' hE' hP' hD' hS' => ?_) (fun n ws' H' locs' q ce ho => by cases ho)
    cases ho
    exact S sc (d' + 1) M _ lo _ σ1 y hMm hy2 p e R s m args below meth c ws0 A ws' H' locs' ls lv _ (cells + dc) (slots + ds) mc ms F hsc hA hZ (hE.tr hE') hW' hP' hD' hS' hl (hL.mono hE') (ai_toS hO (hvr.mono hE')) hfr hlo (by omega) (by omega) hRc hRs
  · next n σ1 dc ds hy =>
    obtain ⟨ct, h5⟩ := got _ hy
    have h5 := h5 n rfl
    split at hrun
    · cases hrun
    next hk2 =>
    split at hrun
    · next h hh =>
      obtain ⟨y, hy2, y1, y2, y3, y4⟩ := ai_add_ok hrun
      obtain ⟨hlen, -, vr, av, hvr, run⟩ := ai_callrun (below := below) (R := R) (cells := cells) (slots := slots) (e := e) F hZ hA hW hP hD hS hl hSt hd hck2 hcall hM1 ct (fun z => absurd z hk2) hfr hlo (by dsimp only; omega) (by dsimp only; omega)
      rw [y1, y2]
      refine ai_after run hA hD hS (fun ov v' ws' H' locs' ho => by cases ho) (fun n2 ws' H' locs' q ce ho hW' hE' hP' hD' hS' hcell hcv hcl => ?_)
      cases ho
      obtain ⟨pre, x, suf, g1, g2, g3, g4, g5, g6⟩ := ai_hnd_ok hT hG.2.2.2 h5 hMm.2 hh
      refine vx_catch hown pre x suf (htab.trans g1) g2 g3 g4 g5 (va_Nw.use rfl (hG.2.2.1 _ (ai_cast n h5) rfl)) hcell hcv hcl ?_
      rw [g6]
      exact S sc (d' + 1) M h lo _ σ1 y hMm hy2 p e R s m args below meth c ws0 A ws' H' locs' ls lv _ (cells + dc) (slots + ds) mc ms F hsc hA hZ (hE.tr hE') hW' hP' hD' hS' hl (hL.mono hE') ⟨⟨q, rfl⟩, trivial⟩ hfr hlo (by omega) (by omega) hRc hRs
    · next hh =>
      split at hrun
      · next hnil =>
        cases hrun
        dsimp only at hc hs
        obtain ⟨hlen, -, vr, av, hvr, run⟩ := ai_callrun (below := below) (R := R) (cells := cells) (slots := slots) (e := e) F hZ hA hW hP hD hS hl hSt hd hck2 hcall hM1 ct (fun z => absurd z hk2) hfr hlo (by dsimp only; omega) (by dsimp only; omega)
        refine ai_after run hA hD hS (fun ov v' ws' H' locs' ho => by cases ho) (fun n2 ws' H' locs' q ce ho hW' hE' hP' hD' hS' hcell hcv hcl => ?_)
        cases ho
        refine vx_out (by intro z hz; rw [htab, hnil] at hz; cases hz) hlocks hcell hcv hcl (fun t ht ha => ⟨n, ws', rfl, rfl, ai_end hW' (hE.tr hE') hP' hD' hS' ht ha⟩) hS'.2.2 hc hs
      · cases hrun
theorem ai_body5 {mt : List AM} {ext : AXT} {op : Option Int32} {ih : AIH} (hM2 : ∀ M ∈ mt, ai_Wk mt M) (hext : ∀ (d : Nat) (M : AM) (as : List AV) (σ : List AC) (r : AR), M ∈ mt → ext d M as σ = some r → ∀ n, r.1 = .inr n → n < 5) (hih5 : ∀ sc d M pc lo st σ (r : AR), ai_Wk mt M → ih sc d M pc lo st σ = some r → ∀ n, r.1 = .inr n → n < 5) :
    ∀ sc d M pc lo st σ (r : AR), ai_Wk mt M → ai_body ext mt op ih sc d M pc lo st σ = some r → ∀ n, r.1 = .inr n → n < 5 := by
  intro sc d M pc lo st σ r hMm hrun n hn
  unfold ai_body at hrun
  split at hrun
  · cases hrun
  next q hq =>
  have hmem : q ∈ m_code M := List.mem_of_find?_eq_some hq
  have hrow := List.all_eq_true.mp hMm.1 _ hmem
  unfold ai_row at hrow
  simp only [Bool.and_eq_true, decide_eq_true_eq] at hrow
  obtain ⟨⟨hd, hchk⟩, hck2⟩ := hrow
  split at hrun
  · exact hih5 _ _ _ _ _ _ _ r hMm hrun n hn
  split at hrun
  · exact hih5 _ _ _ _ _ _ _ r hMm hrun n hn
  split at hrun
  · exact hih5 _ _ _ _ _ _ _ r hMm hrun n hn
  split at hrun
  · obtain ⟨y, hy, y1, -⟩ := ai_add_ok hrun
    exact hih5 _ _ _ _ _ _ _ y hMm hy n (y1.symm.trans hn)
  split at hrun
  · exact hih5 _ _ _ _ _ _ _ r hMm hrun n hn
  split at hrun
  · cases hrun; cases hn
  split at hrun
  · next n' h1 =>
    cases hrun
    cases hn
    unfold ai_th at h1
    split at h1
    · next x n2 t1 t2 ic z e1 e2 e3 =>
      split at h1
      · cases h1
        unfold ai_ck2 at hck2
        rw [e1, e3] at hck2
        have hck2 : ax_ck (m_own M) (m_cc M) q.1 x n t1 t2 ic z = true := hck2
        unfold ax_ck at hck2
        simp only [Bool.and_eq_true, decide_eq_true_eq] at hck2
        exact hck2.1.1.1.1.1.1
      · cases h1
    · cases h1
  split at hrun
  · split at hrun
    · exact hih5 _ _ _ _ _ _ _ r hMm hrun n hn
    · cases hrun
  split at hrun
  · cases hrun
  next rc hcall =>
  have hmem' := ai_call_mem hcall
  cases d with
  | zero => cases hrun
  | succ d' =>
    dsimp only at hrun
    split at hrun
    case isFalse => cases hrun
    split at hrun
    · cases hrun
    · obtain ⟨y, hy, y1, -⟩ := ai_add_ok hrun
      exact hih5 _ _ _ _ _ _ _ y hMm hy n (y1.symm.trans hn)
    · next n' σ1 dc ds hy =>
      split at hrun
      · cases hrun
      split at hrun
      · obtain ⟨y, hy, y1, -⟩ := ai_add_ok hrun
        exact hih5 _ _ _ _ _ _ _ y hMm hy n (y1.symm.trans hn)
      · split at hrun
        · cases hrun
          cases hn
          rcases ai_or_ok hy with hy | hy
          · exact hext _ _ _ _ _ hmem' hy n rfl
          · exact hih5 _ _ _ _ _ _ _ _ (hM2 _ hmem') hy n rfl
        · cases hrun
theorem ai_run_ok {mt : List AM} {l : Launch} {D : va_G} {E : AE} {ext : AXT} {op : Option Int32} (htr : l.stackTraces = false) (hop : ∀ k, op = some k → e_0 E &&& 15 = k) (hM1 : ∀ M ∈ mt, ai_Mk M) (hM2 : ∀ M ∈ mt, ai_mok2 mt M = true)
    (hext : ∀ (M : AM) (as : List AV) (σ : List AC) (d : Nat) (r : AR), M ∈ mt → ext d M as σ = some r → ai_CT l D E M as σ d r ∧ ∀ n, r.1 = .inr n → n < 5) : ∀ fuel : Nat, ai_SND mt l D E (ai_run ext mt op fuel) ∧ ∀ sc d M pc lo st σ (r : AR), ai_Wk mt M → ai_run ext mt op fuel sc d M pc lo st σ = some r → ∀ n, r.1 = .inr n → n < 5
  | 0 => ⟨(fun sc d M pc lo st σ r _ h => by have h : none = some r := h; cases h), (fun sc d M pc lo st σ r _ h => by have h : none = some r := h; cases h)⟩
  | f + 1 => by
    obtain ⟨h1, h2⟩ := ai_run_ok htr hop hM1 hM2 hext f
    exact ⟨ai_body_ok htr hop hM1 hM2 hext h2 h1, ai_body5 (fun M hM => ⟨hM2 M hM, (hM1 M hM).2.2.2.2.2.2.2.2.1⟩) (fun d M as σ r hM h => (hext M as σ d r hM h).2) h2⟩
