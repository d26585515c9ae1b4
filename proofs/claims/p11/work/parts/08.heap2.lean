/-! ===== stores and makings ===== -/
theorem ai_cl_of {ci : Nat} {r : vw_C} (h : vwCl[ci]? = some r) : ai_cl ci = r.1 := by
  unfold ai_cl
  rw [List.getD_eq_getElem?_getD, h]
  rfl
theorem ai_up_i {E : AE} {ws ws' : va_W} {n : Nat} (hE : ai_Ext ws ws') {f : Nat → AV} {g : Nat → Int32} (h : ∀ j, j < n → ai_V E ws (f j) (.int (g j))) {k : Nat} {a : AV} {x : Int32} (ha : ai_V E ws a (.int x)) : ∀ j, j < n → ai_V E ws' (ai_up f k a j) (.int (upd g k x j)) := by
  intro j hj
  unfold ai_up upd
  by_cases e : j = k
  · rw [if_pos e, if_pos e]; exact ha.mono hE
  · rw [if_neg e, if_neg e]; exact (h j hj).mono hE
theorem ai_up_l {E : AE} {ws ws' : va_W} {n : Nat} (hE : ai_Ext ws ws') {f : Nat → AV} {g : Nat → Int64} (h : ∀ j, j < n → ai_V E ws (f j) (.long (g j))) {k : Nat} {a : AV} {x : Int64} (ha : ai_V E ws a (.long x)) : ∀ j, j < n → ai_V E ws' (ai_up f k a j) (.long (vp_updL g k x j)) := by
  intro j hj
  unfold ai_up vp_updL
  by_cases e : j = k
  · rw [if_pos e, if_pos e]; exact ha.mono hE
  · rw [if_neg e, if_neg e]; exact (h j hj).mono hE
theorem ai_up_q {E : AE} {ws ws' : va_W} {n : Nat} (hE : ai_Ext ws ws') {f : Nat → AV} {g : Nat → Option Nat} (h : ∀ j, j < n → ai_V E ws (f j) (va_rf (g j))) {k : Nat} {a : AV} {x : Nat} (ha : ai_V E ws a (.ref x)) : ∀ j, j < n → ai_V E ws' (ai_up f k a j) (va_rf (va_up g k (some x) j)) := by
  intro j hj
  unfold ai_up va_up
  by_cases e : j = k
  · rw [if_pos e, if_pos e]; exact ha.mono hE
  · rw [if_neg e, if_neg e]; exact (h j hj).mono hE
theorem ai_nb_ok {E : AE} {ws : va_W} {a : AV} {x : Int32} (h : ai_V E ws a (.int x)) : ai_V E ws (ai_nb a) (.int (vp_nar .byte x)) := by
  unfold ai_nb
  split
  · have h : Value.int x = .int _ := h
    obtain rfl := Value.int.inj h
    rfl
  · exact ai_top_ok _
theorem ai_nz_ok {E : AE} {ws : va_W} {a : AV} {x : Int32} (h : ai_V E ws a (.int x)) : ai_V E ws (ai_nz a) (.int (vp_nar .boolean x)) := by
  unfold ai_nz
  split
  · have h : Value.int x = .int _ := h
    obtain rfl := Value.int.inj h
    rfl
  · exact ai_top_ok _
theorem ai_setA {E : AE} {s : State} {σ : List AC} {ws : va_W} (w : ai_W E s σ ws) {i a t n : Nat} {cA : ClassId} {x0 : va_E} {f : Nat → AV} (y : (Nat → Int32) ⊕ (Nat → Int64) ⊕ (Nat → UInt32) ⊕ (Nat → UInt64) ⊕ (Nat → Option Nat)) (h : ws[i]? = some (a, x0)) (h1 : ArrOfT s cA (ai_ty t)) (h2 : va_RA s cA (ai_ty t))
    (h3 : ai_A E (ws.set i (a, .inl (cA, n, y))) n (ai_kd t) f y) : ai_W E s (σ.set i (.inl (t, n, f))) (ws.set i (a, .inl (cA, n, y))) := w.set (x := .inl (cA, n, y)) h ⟨rfl, h1, h2, h3⟩
theorem ai_pushA {E : AE} {s : State} {σ : List AC} {ws : va_W} (w : ai_W E s σ ws) {a t n : Nat} {cA : ClassId} {f : Nat → AV} (y : (Nat → Int32) ⊕ (Nat → Int64) ⊕ (Nat → UInt32) ⊕ (Nat → UInt64) ⊕ (Nat → Option Nat)) (h1 : ArrOfT s cA (ai_ty t)) (h2 : va_RA s cA (ai_ty t))
    (h3 : ai_A E (ws ++ [(a, .inl (cA, n, y))]) n (ai_kd t) f y) : ai_W E s (σ ++ [.inl (t, n, f)]) (ws ++ [(a, .inl (cA, n, y))]) := w.push (q := (a, .inl (cA, n, y))) ⟨rfl, h1, h2, h3⟩
section AIH2
variable {p : Program} {l : Launch} {e : Env} {R : Room} {s : State} {m : MethodId} {args : Array Value} {below : List Frame} {meth : Method} {c : Code} {H : Heap} {locs : List Loc} {cells slots : Nat} {Q : State → Prop}
variable {cc : ByteArray} {pc : Nat} {ls : Array Slot} {i : Instr} {len : Nat} {aux : List Nat} {E : AE} {ws : va_W} {st st' : List AV} {vs : List Value} {σ σ' : List AC} {own : String} {D : va_G} {A : Nat → Prop} {H0 : Heap}
set_option maxHeartbeats 4000000 in
theorem ai_h2_ok {ini : Bool} (hini : ini = true → meth.name = "<init>") (hx : p.tables.exec = Jvm.exec) (hb : c.code = cc) (hown : s.vm.findClass own = some m.cls) (hT : ∀ w, w ∈ lw_tbl → goodWord w = true → w.before args s = true) (hK : va_K D vwCl [] s) (hd : decode cc pc = .ok (i, len)) (hchk : ai_chk own i aux = true)
    (w : ai_W E s σ ws) (hP : va_P D vwCl ws H) (hD : va_D A ws) (hSs : va_S A H0 H locs) (hS : ai_S E ws st vs) (h : ai_h2 ini i len aux st σ = some (st', σ'))
    (k : ∀ (ws' : va_W) (H' : Heap) (locs' : List Loc) (vs' : List Value), ai_Ext ws ws' → ai_W E s σ' ws' → va_P D vwCl ws' H' → va_D A ws' → va_S A H0 H' locs' → ai_S E ws' st' vs' → W p l e R s m args below meth c H' locs' cells slots Q (F0 m (pc + len) ls vs')) : W p l e R s m args below meth c H locs cells slots Q (F0 m pc ls vs) := by
  unfold ai_h2 at h
  split at h
  · next ix ci kk t y x r =>
    match vs, hS with
    | [], hS => exact hS.elim
    | [_], ⟨_, hS⟩ => exact hS.elim
    | u :: v :: vs, ⟨hu, hv, hS⟩ =>
      split at h
      · next o ho =>
        obtain ⟨oi, fs⟩ := o
        obtain ⟨a, us, rfl, hw, hfs⟩ := ai_ob_ok ho w hv
        split at h
        · next q hq =>
          split at h
          · next hc =>
            cases h
            obtain ⟨hc1, hc2, hc3⟩ := hc
            have hchk : (match vwCl[ci]? with
              | some r => decide (kk < r.2.2) && ai_w t (.fieldLink own ix r.1 (r.2.1 kk).2.1 (r.2.1 kk).2.2.1) && decide ((r.2.1 kk).1 = r.1) && (!(r.2.1 kk).2.2.2 || decide (r.1 = own))
              | none => false) = true := hchk
            rw [hq] at hchk
            simp only [Bool.and_eq_true, decide_eq_true_eq, Bool.or_eq_true, Bool.not_eq_true'] at hchk
            obtain ⟨⟨⟨c1, c2⟩, c3⟩, c4⟩ := hchk
            obtain ⟨f1, f2, f3⟩ := ai_F_all ci q hq
            obtain ⟨g1, g2⟩ := ai_w_ok c2
            obtain ⟨n1, n2⟩ := ai_fit_ok hc2 hu
            have hlen : kk < us.length := by rw [← ai_S_len hfs]; exact hc1
            have fin : ∀ (H1 : Heap) (locs1 : List Loc), va_P D vwCl (ws.set oi (a, .inr (ci, us.set kk u))) H1 → va_D A (ws.set oi (a, .inr (ci, us.set kk u))) → va_S A H0 H1 locs1 → W p l e R s m args below meth c H1 locs1 cells slots Q (F0 m (pc + 3) ls vs) :=
              fun H1 locs1 p1 d1 s1 => k _ H1 locs1 vs (ai_Ext.set hw) (w.set (x := .inr (ci, us.set kk u)) hw ⟨rfl, (ai_S_set hu hfs).mono (ai_Ext.set hw)⟩) p1 d1 s1 (hS.mono (ai_Ext.set hw))
            cases hfl : (q.2.1 kk).2.2.2 with
            | false => exact va_put (own := own) (ref := q.1) (C := q.1) (T := q.2.1) (N := q.2.2) (Ts := u_ws q.1 q.2.1 q.2.2) hx hb (fun w hw => hT w (f3 w hw) (ai_u_good _ _ _ w hw)) (fun w hw => hw) (ai_tf ci) f1 f2 hown hK hP hD hSs oi hw hq kk c1 (hT _ g1 g2) (fun x hx => by rw [c3] at hx; exact hx) hfl (f1 kk c1) n1 n2 hlen hd fin
            | true =>
              have ho : q.1 = own := c4.elim (fun z => by rw [hfl] at z; cases z) id
              exact va_putF (own := own) (ref := q.1) (C := q.1) (T := q.2.1) (N := q.2.2) (Ts := u_ws q.1 q.2.1 q.2.2) hx hb (fun w hw => hT w (f3 w hw) (ai_u_good _ _ _ w hw)) (fun w hw => hw) (ai_tf ci) f1 f2 hown hK hP hD hSs oi hw hq kk c1 (hT _ g1 g2) (fun x hx => by rw [c3] at hx; exact hx) hfl (hini (hc3 hfl)) (c3.trans ho) (f1 kk c1) n1 n2 hlen hd fin
          · cases h
        · cases h
      · cases h
  · next y j x r =>
    match vs, hS with
    | [], hS => exact hS.elim
    | [_], ⟨_, hS⟩ => exact hS.elim
    | [_, _], ⟨_, _, hS⟩ => exact hS.elim
    | u :: vj :: v :: vs, ⟨hu, hvj, hv, hS⟩ =>
      split at h
      · next o ho =>
        obtain ⟨oi, t, n, f⟩ := o
        obtain ⟨a, cA, y, rfl, hw, h1, h2, h3⟩ := ai_ar_ok ho w hv
        split at h
        · next kk hk =>
          obtain ⟨b, rfl, hin, rfl⟩ := ai_ix_ok hk hvj
          split at h
          · next hc =>
            cases h
            obtain ⟨ht, hcu⟩ := hc
            have ht : t = 1 := ht
            subst ht
            obtain ⟨xu, rfl⟩ := ai_V_int hcu hu
            match y, h3, hw with
            | .inl g, h3, hw => exact va_iast hx hb (ai_K1 hK h1 h2) hP hD hSs oi 0 hw rfl hin hd (fun H1 locs1 p1 d1 s1 => k _ H1 locs1 vs (ai_Ext.set hw) (ai_setA w (.inl (upd g b.toNatClampNeg xu)) hw h1 h2 (ai_up_i (ai_Ext.set hw) h3 hu)) p1 d1 s1 (hS.mono (ai_Ext.set hw)))
            | .inr (.inl g), h3, hw => exact h3.elim
            | .inr (.inr (.inl g)), h3, hw => exact h3.elim
            | .inr (.inr (.inr (.inl g))), h3, hw => exact h3.elim
            | .inr (.inr (.inr (.inr g))), h3, hw => exact h3.elim
          · cases h
        · cases h
      · cases h
  · next y j x r =>
    match vs, hS with
    | [], hS => exact hS.elim
    | [_], ⟨_, hS⟩ => exact hS.elim
    | [_, _], ⟨_, _, hS⟩ => exact hS.elim
    | u :: vj :: v :: vs, ⟨hu, hvj, hv, hS⟩ =>
      split at h
      · next o ho =>
        obtain ⟨oi, t, n, f⟩ := o
        obtain ⟨a, cA, y, rfl, hw, h1, h2, h3⟩ := ai_ar_ok ho w hv
        split at h
        · next kk hk =>
          obtain ⟨b, rfl, hin, rfl⟩ := ai_ix_ok hk hvj
          split at h
          · next hcu =>
            obtain ⟨xu, rfl⟩ := ai_V_int hcu hu
            split at h
            · next ht =>
              cases h
              have ht : t = 0 := ht
              subst ht
              match y, h3, hw with
              | .inl g, h3, hw => exact va_bast hx hb (ai_K1 hK h1 h2) hP hD hSs oi 0 hw rfl hin hd (fun H1 locs1 p1 d1 s1 => k _ H1 locs1 vs (ai_Ext.set hw) (ai_setA w (.inl (upd g b.toNatClampNeg (vp_nar .byte xu))) hw h1 h2 (ai_up_i (ai_Ext.set hw) h3 (ai_nb_ok hu))) p1 d1 s1 (hS.mono (ai_Ext.set hw)))
              | .inr (.inl g), h3, hw => exact h3.elim
              | .inr (.inr (.inl g)), h3, hw => exact h3.elim
              | .inr (.inr (.inr (.inl g))), h3, hw => exact h3.elim
              | .inr (.inr (.inr (.inr g))), h3, hw => exact h3.elim
            · split at h
              · next ht =>
                cases h
                have ht : t = 3 := ht
                subst ht
                match y, h3, hw with
                | .inl g, h3, hw => exact va_zast hx hb (ai_K1 hK h1 h2) hP hD hSs oi 0 hw rfl hin hd (fun H1 locs1 p1 d1 s1 => k _ H1 locs1 vs (ai_Ext.set hw) (ai_setA w (.inl (upd g b.toNatClampNeg (vp_nar .boolean xu))) hw h1 h2 (ai_up_i (ai_Ext.set hw) h3 (ai_nz_ok hu))) p1 d1 s1 (hS.mono (ai_Ext.set hw)))
                | .inr (.inl g), h3, hw => exact h3.elim
                | .inr (.inr (.inl g)), h3, hw => exact h3.elim
                | .inr (.inr (.inr (.inl g))), h3, hw => exact h3.elim
                | .inr (.inr (.inr (.inr g))), h3, hw => exact h3.elim
              · cases h
          · cases h
        · cases h
      · cases h
  · next y j x r =>
    match vs, hS with
    | [], hS => exact hS.elim
    | [_], ⟨_, hS⟩ => exact hS.elim
    | [_, _], ⟨_, _, hS⟩ => exact hS.elim
    | u :: vj :: v :: vs, ⟨hu, hvj, hv, hS⟩ =>
      split at h
      · next o ho =>
        obtain ⟨oi, t, n, f⟩ := o
        obtain ⟨a, cA, y, rfl, hw, h1, h2, h3⟩ := ai_ar_ok ho w hv
        split at h
        · next kk hk =>
          obtain ⟨b, rfl, hin, rfl⟩ := ai_ix_ok hk hvj
          split at h
          · next hc =>
            cases h
            obtain ⟨ht, hcu⟩ := hc
            have ht : t = 2 := ht
            subst ht
            obtain ⟨xu, rfl⟩ := ai_V_long hcu hu
            match y, h3, hw with
            | .inl g, h3, hw => exact h3.elim
            | .inr (.inl g), h3, hw => exact va_last hx hb (ai_K1 hK h1 h2) hP hD hSs oi 0 hw rfl hin hd (fun H1 locs1 p1 d1 s1 => k _ H1 locs1 vs (ai_Ext.set hw) (ai_setA w (.inr (.inl (vp_updL g b.toNatClampNeg xu))) hw h1 h2 (ai_up_l (ai_Ext.set hw) h3 hu)) p1 d1 s1 (hS.mono (ai_Ext.set hw)))
            | .inr (.inr (.inl g)), h3, hw => exact h3.elim
            | .inr (.inr (.inr (.inl g))), h3, hw => exact h3.elim
            | .inr (.inr (.inr (.inr g))), h3, hw => exact h3.elim
          · cases h
        · cases h
      · cases h
  · next y j x r =>
    match vs, hS with
    | [], hS => exact hS.elim
    | [_], ⟨_, hS⟩ => exact hS.elim
    | [_, _], ⟨_, _, hS⟩ => exact hS.elim
    | u :: vj :: v :: vs, ⟨hu, hvj, hv, hS⟩ =>
      split at h
      · next o ho =>
        obtain ⟨oi, t, n, f⟩ := o
        obtain ⟨a, cA, y, rfl, hw, h1, h2, h3⟩ := ai_ar_ok ho w hv
        split at h
        · next kk hk =>
          obtain ⟨b, rfl, hin, rfl⟩ := ai_ix_ok hk hvj
          split at h
          · next ob hob =>
            obtain ⟨obi, ofs⟩ := ob
            obtain ⟨a2, us2, rfl, hw2, -⟩ := ai_ob_ok hob w hu
            split at h
            · next q hq =>
              split at h
              · next ht =>
                cases h
                have ht : 4 ≤ t := ht
                obtain ⟨t4, rfl⟩ : ∃ t4, t = t4 + 4 := ⟨t - 4, by omega⟩
                have hw2 : ws[obi]? = some (a2, .inr (t4, us2)) := hw2
                have hq : vwCl[t4]? = some q := hq
                have e4 : ai_ty (t4 + 4) = .object q.1 := by show FieldType.object (ai_cl t4) = _; rw [ai_cl_of hq]
                match y, h3, hw with
                | .inl g, h3, hw => exact h3.elim
                | .inr (.inl g), h3, hw => exact h3.elim
                | .inr (.inr (.inl g)), h3, hw => exact h3.elim
                | .inr (.inr (.inr (.inl g))), h3, hw => exact h3.elim
                | .inr (.inr (.inr (.inr g))), h3, hw => exact va_astq hx hb (ai_K1 hK h1 h2) hP hD hSs oi 0 obi t4 hw (by rw [e4]; rfl) hw2 hq hin hd (fun H1 locs1 p1 d1 s1 => k _ H1 locs1 vs (ai_Ext.set hw) (ai_setA w (.inr (.inr (.inr (.inr (va_up g b.toNatClampNeg (some a2)))))) hw h1 h2 (ai_up_q (ai_Ext.set hw) h3 hu)) p1 d1 s1 (hS.mono (ai_Ext.set hw)))
              · cases h
            · cases h
          · cases h
        · cases h
      · cases h
  · cases h
set_option maxHeartbeats 4000000 in
theorem ai_h3_ok (hx : p.tables.exec = Jvm.exec) (hb : c.code = cc) (hown : s.vm.findClass own = some m.cls) (hT : ∀ w, w ∈ lw_tbl → goodWord w = true → w.before args s = true) (hO : ∀ C : String, Cond.arrayOver (.object C) ∈ lw_tbl → va_AO C s) (hK : va_K D vwCl [] s) (hd : decode cc pc = .ok (i, len)) (hchk : ai_chk own i aux = true)
    (w : ai_W E s σ ws) (hP : va_P D vwCl ws H) (hD : va_D A ws) (hSs : va_S A H0 H locs) (hA : ∀ q, H0.size ≤ q → A q) (hS : ai_S E ws st vs) {ce : AC} {ds : Nat} (h : ai_h3 i len aux st σ = some (st', ce, ds)) (hc1 : cells + 1 ≤ R.cells) (hs1 : slots + ds ≤ R.slots)
    (k : ∀ (ws' : va_W) (H' : Heap) (vs' : List Value), ai_Ext ws ws' → ai_W E s (σ ++ [ce]) ws' → va_P D vwCl ws' H' → va_D A ws' → va_S A H0 H' locs → ai_S E ws' (.inr (.inr (.inr (.inl (some σ.length)))) :: st') vs' → W p l e R s m args below meth c H' locs (cells + 1) (slots + ds) Q (F0 m (pc + len) ls vs')) : W p l e R s m args below meth c H locs cells slots Q (F0 m pc ls vs) := by
  have hadd : ∀ (q : Nat × va_E) , ai_ad (ws ++ [q]) σ.length = some q.1 := fun q => by rw [w.1]; exact ai_ad_push
  unfold ai_h3 at h
  split at h
  · next ix ci t1 t2 t3 =>
    split at h
    · next q hq =>
      cases h
      have hchk : (match vwCl[ci]? with
        | some r => ai_w t1 (.classLink own ix r.1) && ai_w t2 (.instantiable r.1 r.2.2) && ai_w t3 (.initialized r.1) && (List.range r.2.2).all (fun k => ai_ok (ai_tf ci k))
        | none => false) = true := hchk
      rw [hq] at hchk
      simp only [Bool.and_eq_true, List.all_eq_true] at hchk
      obtain ⟨⟨⟨c1, c2⟩, c3⟩, c4⟩ := hchk
      obtain ⟨f1, f2, f3⟩ := ai_F_all ci q hq
      refine va_new (own := own) (C := q.1) (T := q.2.1) (N := q.2.2) (Ts := u_ws q.1 q.2.1 q.2.2) (fs := (List.range q.2.2).map (fun k => defaultValue (ai_tf ci k))) hx hb (fun w hw => hT w (f3 w hw) (ai_u_good _ _ _ w hw)) (fun w hw => hw) (ai_tf ci) f1 hown (hT _ (ai_w_ok c1).1 (ai_w_ok c1).2) (hT _ (ai_w_ok c2).1 (ai_w_ok c2).2) (hT _ (ai_w_ok c3).1 (ai_w_ok c3).2) hK hP hD hSs hA hq ?_ hc1 hs1 hd ?_
      · intro j hj
        unfold vp_V
        rw [List.getD_eq_getElem?_getD, List.getElem?_map, List.getElem?_range hj]
        rfl
      · intro qa H1 p1 d1 s1
        exact k _ H1 (.ref qa :: vs) ai_Ext.push (w.push (q := (qa, .inr (ci, (List.range q.2.2).map (fun k => defaultValue (ai_tf ci k))))) ⟨rfl, ai_S_map _ (fun k hk => ai_df_ok (c4 k hk))⟩) p1 d1 s1 ⟨⟨qa, rfl, hadd _⟩, hS.mono ai_Ext.push⟩
    · cases h
  · next y t t1 n r =>
    match vs, hS with
    | [], hS => exact hS.elim
    | v :: vs, ⟨hv, hS⟩ =>
      split at h
      · next kk hk =>
        cases h
        obtain ⟨b, rfl, hin, rfl⟩ := ai_ix_ok hk hv
        have hchk : (decide (ai_ty t = newarray.typeOf y) && ai_w t1 (.arrayClass (newarray.typeOf y)) && decide (t < 4)) = true := hchk
        simp only [Bool.and_eq_true, decide_eq_true_eq] at hchk
        obtain ⟨⟨c1, c2⟩, c3⟩ := hchk
        have hn : ¬ b < 0 := fun z => hin (Or.inl z)
        have hn2 : b.toNatClampNeg < 100000 := Nat.lt_of_not_le fun z => hin (Or.inr z)
        have hcA := hT _ (ai_w_ok c2).1 (ai_w_ok c2).2
        match t, c1, c3 with
        | 0, c1, _ =>
          exact va_newa (a0 := (b.toNatClampNeg, .inl (fun _ => 0))) hx hb hcA c1.symm hK hP hD hSs hA (fun cA => rfl) hn rfl (by show _ * 1 ≤ _; omega) hc1 hs1 hd (fun qa cA H1 k1 p1 d1 s1 => k _ H1 (.ref qa :: vs) ai_Ext.push (ai_pushA w (.inl (fun _ => 0)) (k1.2 0 _ rfl).1 (k1.2 0 _ rfl).2 (fun _ _ => rfl)) p1 d1 s1 ⟨⟨qa, rfl, hadd _⟩, hS.mono ai_Ext.push⟩)
        | 1, c1, _ =>
          exact va_newa (a0 := (b.toNatClampNeg, .inl (fun _ => 0))) hx hb hcA c1.symm hK hP hD hSs hA (fun cA => rfl) hn rfl (by show _ * 4 ≤ _; omega) hc1 hs1 hd (fun qa cA H1 k1 p1 d1 s1 => k _ H1 (.ref qa :: vs) ai_Ext.push (ai_pushA w (.inl (fun _ => 0)) (k1.2 0 _ rfl).1 (k1.2 0 _ rfl).2 (fun _ _ => rfl)) p1 d1 s1 ⟨⟨qa, rfl, hadd _⟩, hS.mono ai_Ext.push⟩)
        | 2, c1, _ =>
          exact va_newa (a0 := (b.toNatClampNeg, .inr (.inl (fun _ => 0)))) hx hb hcA c1.symm hK hP hD hSs hA (fun cA => rfl) hn rfl (by show _ * 8 ≤ _; omega) hc1 hs1 hd (fun qa cA H1 k1 p1 d1 s1 => k _ H1 (.ref qa :: vs) ai_Ext.push (ai_pushA w (.inr (.inl (fun _ => 0))) (k1.2 0 _ rfl).1 (k1.2 0 _ rfl).2 (fun _ _ => rfl)) p1 d1 s1 ⟨⟨qa, rfl, hadd _⟩, hS.mono ai_Ext.push⟩)
        | 3, c1, _ =>
          exact va_newa (a0 := (b.toNatClampNeg, .inl (fun _ => 0))) hx hb hcA c1.symm hK hP hD hSs hA (fun cA => rfl) hn rfl (by show _ * 1 ≤ _; omega) hc1 hs1 hd (fun qa cA H1 k1 p1 d1 s1 => k _ H1 (.ref qa :: vs) ai_Ext.push (ai_pushA w (.inl (fun _ => 0)) (k1.2 0 _ rfl).1 (k1.2 0 _ rfl).2 (fun _ _ => rfl)) p1 d1 s1 ⟨⟨qa, rfl, hadd _⟩, hS.mono ai_Ext.push⟩)
        | n + 4, _, c3 => exact absurd c3 (by omega)
      · cases h
  · next ix ci t1 t2 n r =>
    match vs, hS with
    | [], hS => exact hS.elim
    | v :: vs, ⟨hv, hS⟩ =>
      split at h
      · next kk hk =>
        cases h
        obtain ⟨b, rfl, hin, rfl⟩ := ai_ix_ok hk hv
        have hchk : (ai_w t1 (.classLink own ix (ai_cl ci)) && ai_wb t2 (.arrayOver (.object (ai_cl ci)))) = true := hchk
        rw [Bool.and_eq_true] at hchk
        obtain ⟨c1, c2⟩ := hchk
        have hn : ¬ b < 0 := fun z => hin (Or.inl z)
        have hn2 : b.toNatClampNeg < 100000 := Nat.lt_of_not_le fun z => hin (Or.inr z)
        exact va_newq hx hb hown (hT _ (ai_w_ok c1).1 (ai_w_ok c1).2) (hO _ (ai_wb_ok c2)) hK hP hD hSs hA hn rfl (by omega) hc1 hs1 hd (fun qa cA H1 k1 p1 d1 s1 => k _ H1 (.ref qa :: vs) ai_Ext.push (ai_pushA (t := ci + 4) w (.inr (.inr (.inr (.inr (fun _ => none))))) (k1.2 0 _ rfl).1 (k1.2 0 _ rfl).2 (fun _ _ => rfl)) p1 d1 s1 ⟨⟨qa, rfl, hadd _⟩, hS.mono ai_Ext.push⟩)
      · cases h
  · cases h
end AIH2
