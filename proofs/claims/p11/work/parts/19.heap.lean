/-! ===== machine B: the instructions that use the world ===== -/
theorem bk_lt {k j : Nat} {f : BF} (h : bk_spec k j = some f) : k < 1000 := by
  unfold bk_spec at h
  split at h
  · next q hq =>
    have := (List.getElem?_eq_some_iff.mp hq).1
    have e : bk_tab.length ≤ 1000 := by decide +kernel
    omega
  · next q hq =>
    have := (List.getElem?_eq_some_iff.mp hq).1
    have e : bk_tab.length ≤ 1000 := by decide +kernel
    omega
  · cases h
theorem bk_sO {k ci j : Nat} {fs : List BF} (h : bk_tab[k]? = some (.inl (ci, fs))) : bk_spec k j = fs[j]? := by
  unfold bk_spec; rw [h]
theorem bk_sA {k t n j : Nat} {f : BF} (h : bk_tab[k]? = some (.inr (t, n, f))) (hj : j < n) : bk_spec k j = some f := by
  unfold bk_spec; rw [h]; exact if_pos hj
theorem bs_rd {nu : List Int} {g : BG} {s : BS} (h : bs_ok nu g s) (hg : bw_ok g) {k : Nat} {p x : Li} {P X : Nat} {q : Nat × Int × Int} (hP : P < 230) (hk : bk_at P = k) (hp : li_e nu p = some (P : Int)) (hx : li_e nu x = some (X : Int)) (hq : bk_spec k X = some (.inl q)) : bs_R nu g (bs_q s k p x q.2.1 q.2.2) (g P X) := by
  have hlt := bk_lt hq
  subst hk
  have hb := hg P X q hP hq
  unfold bs_q
  split
  · next e he =>
    have hc0 := List.find?_some he
    have hc : e.1 = bk_at P ∧ e.2.1 = p ∧ e.2.2.1 = x := of_decide_eq_true hc0
    obtain ⟨c1, c2, c3⟩ := hc
    have hm := h.2.2 e (List.mem_of_find?_eq_some he)
    unfold bc_e at hm
    rw [c1, if_pos hlt, c2, c3] at hm
    obtain ⟨P', X', m1, m2, m3, m4, m5⟩ := hm
    rw [hp] at m1
    rw [hx] at m2
    have e1 : P' = P := by have := Option.some.inj m1; omega
    have e2 : X' = X := by have := Option.some.inj m2; omega
    subst e1
    subst e2
    exact ⟨nu, nu_le.rf, h, m5⟩
  · obtain ⟨n1, n2⟩ := bs_new_ok h hb.1 hb.2
    refine ⟨_, nu_le.ap, ⟨n1.1, n1.2.1, fun e he => ?_⟩, n2⟩
    rcases List.mem_cons.mp he with rfl | he
    · unfold bc_e
      rw [if_pos hlt]
      exact ⟨P, X, li_e_mono nu_le.ap hp, li_e_mono nu_le.ap hx, hP, rfl, n2⟩
    · exact n1.2.2 e he
def b_ap (s : BS) (a b : Li) : Bool := match li_v s.1 (li_sub a b) with
  | w => decide (0 < w.1) || decide (w.2 < 0)
theorem b_ap_ok {nu : List Int} {g : BG} {s : BS} (h : bs_ok nu g s) {a b : Li} (k : b_ap s a b = true) {x y : Int} (hx : li_e nu a = some x) (hy : li_e nu b = some y) : x ≠ y := by
  have v := li_v_ok h.1 (li_e_sub hx hy)
  have k : (decide (0 < (li_v s.1 (li_sub a b)).1) || decide ((li_v s.1 (li_sub a b)).2 < 0)) = true := k
  rw [Bool.or_eq_true, decide_eq_true_eq, decide_eq_true_eq] at k
  omega
def b_keep (s : BS) (k : Nat) (p x : Li) (e : Nat × Li × Li × Li) : Bool := decide (e.1 ≠ k) || (b_ap s e.2.1 p || b_ap s e.2.2.1 x)
def b_wr (s : BS) (k : Nat) (p x v : Li) : BS := (s.1, s.2.1, (k, p, x, v) :: s.2.2.filter (b_keep s k p x))
theorem b_wr_ok {nu : List Int} {g : BG} {s : BS} (h : bs_ok nu g s) {k : Nat} {p x v : Li} {P X : Nat} {z : Int} (hP : P < 230) (hk : bk_at P = k) (hlt : k < 1000) (hp : li_e nu p = some (P : Int)) (hx : li_e nu x = some (X : Int)) (hv : li_e nu v = some z) : bs_ok nu (bg_up g P X z) (b_wr s k p x v) := by
  refine ⟨h.1, h.2.1, fun e he => ?_⟩
  rcases List.mem_cons.mp he with rfl | he
  · unfold bc_e
    rw [if_pos hlt]
    refine ⟨P, X, hp, hx, hP, hk, ?_⟩
    show li_e nu v = some (if P = P ∧ X = X then z else g P X)
    rw [if_pos ⟨rfl, rfl⟩]
    exact hv
  · obtain ⟨h1, h2⟩ := List.mem_filter.mp he
    have hm := h.2.2 e h1
    unfold bc_e at hm ⊢
    split
    · next c =>
      rw [if_pos c] at hm
      obtain ⟨P', X', m1, m2, m3, m4, m5⟩ := hm
      refine ⟨P', X', m1, m2, m3, m4, ?_⟩
      show _ = some (if P' = P ∧ X' = X then z else g P' X')
      rw [if_neg]
      · exact m5
      rintro ⟨rfl, rfl⟩
      unfold b_keep at h2
      rw [Bool.or_eq_true, Bool.or_eq_true, decide_eq_true_eq] at h2
      rcases h2 with h2 | h2 | h2
      · exact h2 (m4.symm.trans hk)
      · exact b_ap_ok h h2 m1 hp rfl
      · exact b_ap_ok h h2 m2 hx rfl
    · next c =>
      rw [if_neg c] at hm
      obtain ⟨a, b, m1, m2, m3⟩ := hm
      exact ⟨a, b, m1, m2, by rw [bq_G_eq (bg_ne (by omega))]; exact m3⟩
/-- a reference that is read -/
def b_rt (f : Nat × Int × Int × Int) (p x : Li) : BV := .inr (.inl (f.1, li_add (li_c f.2.1) (li_add (li_mul f.2.2.1 p) (li_mul f.2.2.2 x))))
theorem b_rt_ok {B : BE} {nu : List Int} {f : Nat × Int × Int × Int} {p x : Li} {P X : Nat} (hP : P < 230) (hp : li_e nu p = some (P : Int)) (hx : li_e nu x = some (X : Int)) (hq : bk_spec (bk_at P) X = some (.inr f)) : bv_V B nu (b_rt f p x) (.ref (b_ad B (bk_to f P X).toNat)) := by
  obtain ⟨h1, h2, h3⟩ := bk_ref hP hq
  refine ⟨(bk_to f P X).toNat, rfl, ?_, h2, h3⟩
  have e := li_e_add (li_e_c nu f.2.1) (li_e_add (li_e_mul f.2.2.1 hp) (li_e_mul f.2.2.2 hx))
  have e2 : f.2.1 + (f.2.2.1 * (P : Int) + f.2.2.2 * (X : Int)) = ((bk_to f P X).toNat : Int) := by
    have : bk_to f P X = f.2.1 + f.2.2.1 * (P : Int) + f.2.2.2 * (X : Int) := rfl
    omega
  rw [e2] at e
  exact e
def b_in (s : BS) (n : Nat) (x : Li) : Bool := bs_ge s x && bs_ge s (li_sub (li_c ((n : Int) - 1)) x)
theorem b_in_ok {nu : List Int} {g : BG} {s : BS} (h : bs_ok nu g s) {n : Nat} {x : Li} (k : b_in s n x = true) {c : Int32} (hx : li_e nu x = some c.toInt) : vp_in c n ∧ li_e nu x = some (c.toNatClampNeg : Int) ∧ c.toNatClampNeg < n := by
  unfold b_in at k
  rw [Bool.and_eq_true] at k
  have h1 := bs_ge_ok h k.1 hx
  have h2 := bs_ge_ok h k.2 (li_e_sub (li_e_c nu _) hx)
  have e : (c.toNatClampNeg : Int) = c.toInt := by
    show (c.toInt.toNat : Int) = c.toInt
    omega
  refine ⟨vp_in_iff.mpr ⟨h1, by omega⟩, by rw [e]; exact hx, by omega⟩
def b_tg (i : Instr) (t : Nat) : Bool := match i with
  | .iaload => decide (t = 1)
  | .baload => decide (t = 0 ∨ t = 3)
  | .laload => decide (t = 2)
  | .aaload => decide (4 ≤ t)
  | _ => false
def b_ts (i : Instr) (t : Nat) : Bool := match i with
  | .iastore => decide (t = 1)
  | .bastore => decide (t = 0 ∨ t = 3)
  | .lastore => decide (t = 2)
  | _ => false
/-- reads -/
def b_h1 (i : Instr) (len : Nat) (aux : List Nat) (st : List BV) (s : BS) : Option (List BV × BS) := match i, aux, st with
  | .getfield _, [ci, j, _], .inr (.inl o) :: r => match bk_tab[o.1]? with
    | some (.inl q) => if len = 3 ∧ q.1 = ci then (match q.2[j]? with
      | some (.inl f) => some (.inl (f.1, (bs_q s o.1 o.2 (li_c (j : Int)) f.2.1 f.2.2).2) :: r, (bs_q s o.1 o.2 (li_c (j : Int)) f.2.1 f.2.2).1)
      | some (.inr f) => some (b_rt f o.2 (li_c (j : Int)) :: r, s)
      | none => none) else none
    | _ => none
  | .ldc2_w _, [n, _], r => if len = 3 then some (.inl (1, li_c (Int64.ofNat n).toInt) :: r, s) else none
  | .arraylength, _, .inr (.inl o) :: r => match bk_tab[o.1]? with
    | some (.inr q) => if len = 1 then some (.inl (0, li_c (q.2.1 : Int)) :: r, s) else none
    | _ => none
  | i, _, .inl x :: .inr (.inl o) :: r => match bk_tab[o.1]? with
    | some (.inr q) => if len = 1 ∧ x.1 = 0 ∧ b_in s q.2.1 x.2 = true ∧ b_tg i q.1 = true then (match q.2.2 with
      | .inl f => some (.inl (f.1, (bs_q s o.1 o.2 x.2 f.2.1 f.2.2).2) :: r, (bs_q s o.1 o.2 x.2 f.2.1 f.2.2).1)
      | .inr f => some (b_rt f o.2 x.2 :: r, s)) else none
    | _ => none
  | _, _, _ => none
/-- writes -/
def b_h2 (md : List Nat) (i : Instr) (len : Nat) (aux : List Nat) (st : List BV) (s : BS) : Option (List BV × BS) := match i, aux, st with
  | .putfield _, [ci, j, _], .inl v :: .inr (.inl o) :: r => match bk_tab[o.1]? with
    | some (.inl q) => match q.2[j]?, vwCl[ci]? with
      | some (.inl f), some row => if len = 3 ∧ q.1 = ci ∧ v.1 = f.1 ∧ bs_fit s f.2.1 f.2.2 v.2 = true ∧ (row.2.1 j).2.2.2 = false ∧ bk_code o.1 j ∈ md then some (r, b_wr s o.1 o.2 (li_c (j : Int)) v.2) else none
      | _, _ => none
    | _ => none
  | i, _, .inl v :: .inl x :: .inr (.inl o) :: r => match bk_tab[o.1]? with
    | some (.inr q) => match q.2.2 with
      | .inl f => if len = 1 ∧ x.1 = 0 ∧ v.1 = f.1 ∧ b_in s q.2.1 x.2 = true ∧ b_ts i q.1 = true ∧ bs_fit s f.2.1 f.2.2 v.2 = true ∧ bk_code o.1 0 ∈ md then some (r, b_wr s o.1 o.2 x.2 v.2) else none
      | .inr _ => none
    | _ => none
  | _, _, _ => none
theorem bw_f0 {B : BE} {r : Nat → Int} {P j : Nat} {f : Nat × Int × Int} (h : f.1 = 0) : bw_f B r P j (.inl f) = .int (Int32.ofInt (r j)) := by
  show (if f.1 = 0 then _ else _) = _
  rw [if_pos h]
theorem bw_f1 {B : BE} {r : Nat → Int} {P j : Nat} {f : Nat × Int × Int} (h : f.1 = 1) : bw_f B r P j (.inl f) = .long (Int64.ofInt (r j)) := by
  show (if f.1 = 0 then _ else _) = _
  rw [if_neg (by omega)]
/-- a number that is read has its kind's width -/
theorem bw_fv {B : BE} {nu : List Int} {g : BG} {P j : Nat} {f : Nat × Int × Int} {a : Li} (hf : f.1 = 0 ∧ bk_i32 f.2.1 f.2.2 = true ∨ f.1 = 1 ∧ bk_i64 f.2.1 f.2.2 = true) (h1 : f.2.1 ≤ g P j) (h2 : g P j ≤ f.2.2) (ha : li_e nu a = some (g P j)) : bv_V B nu (.inl (f.1, a)) (bw_f B (g P) P j (.inl f)) := by
  rcases hf with ⟨e, k⟩ | ⟨e, k⟩
  · rw [bw_f0 e, e]
    unfold bk_i32 at k
    rw [Bool.and_eq_true, decide_eq_true_eq, decide_eq_true_eq] at k
    exact bv_i.mpr ⟨_, rfl, by rw [fb_ofI (by omega) (by omega)]; exact ha⟩
  · rw [bw_f1 e, e]
    unfold bk_i64 at k
    rw [Bool.and_eq_true, decide_eq_true_eq, decide_eq_true_eq] at k
    exact bv_l.mpr ⟨_, rfl, by rw [fb_ofL (by omega) (by omega)]; exact ha⟩
theorem bk_tf_w {t : FieldType} {f : Nat × Int × Int} (h : bk_tf t (.inl f) = true) : f.1 = 0 ∧ bk_i32 f.2.1 f.2.2 = true ∨ f.1 = 1 ∧ bk_i64 f.2.1 f.2.2 = true := by
  unfold bk_tf at h
  split at h
  · next q e =>
    cases e
    rw [Bool.and_eq_true, decide_eq_true_eq] at h
    exact Or.inl h
  · next q e =>
    cases e
    rw [Bool.and_eq_true, Bool.and_eq_true, decide_eq_true_eq, decide_eq_true_eq, decide_eq_true_eq] at h
    refine Or.inl ⟨h.1, ?_⟩
    unfold bk_i32
    rw [Bool.and_eq_true, decide_eq_true_eq, decide_eq_true_eq]
    omega
  · next q e =>
    cases e
    rw [Bool.and_eq_true, decide_eq_true_eq] at h
    exact Or.inr h
  · next e => cases e
  · next e => cases e
  · cases h
theorem bk_ta_w {t : Nat} {f : Nat × Int × Int} (h : bk_ta t (.inl f) = true) : (f.1 = 0 ∧ bk_i32 f.2.1 f.2.2 = true ∨ f.1 = 1 ∧ bk_i64 f.2.1 f.2.2 = true) ∧ (f.1 = 0 → ai_kd t = 0 ∧ (t = 0 → -128 ≤ f.2.1 ∧ f.2.2 ≤ 127) ∧ (t = 3 → 0 ≤ f.2.1 ∧ f.2.2 ≤ 1) ∧ t ≤ 3) ∧ (f.1 = 1 → t = 2) := by
  unfold bk_ta at h
  split at h
  · next q e =>
    cases e
    rw [Bool.and_eq_true, Bool.and_eq_true, decide_eq_true_eq, decide_eq_true_eq, decide_eq_true_eq] at h
    refine ⟨Or.inl ⟨h.1, ?_⟩, fun _ => ⟨rfl, fun _ => h.2, fun z => by omega, by omega⟩, fun z => by omega⟩
    unfold bk_i32
    rw [Bool.and_eq_true, decide_eq_true_eq, decide_eq_true_eq]
    omega
  · next q e =>
    cases e
    rw [Bool.and_eq_true, decide_eq_true_eq] at h
    exact ⟨Or.inl h, fun _ => ⟨rfl, fun z => by omega, fun z => by omega, by omega⟩, fun z => by omega⟩
  · next q e =>
    cases e
    rw [Bool.and_eq_true, decide_eq_true_eq] at h
    exact ⟨Or.inr h, fun z => by omega, fun _ => rfl⟩
  · next q e =>
    cases e
    rw [Bool.and_eq_true, Bool.and_eq_true, decide_eq_true_eq, decide_eq_true_eq, decide_eq_true_eq] at h
    refine ⟨Or.inl ⟨h.1, ?_⟩, fun _ => ⟨rfl, fun z => by omega, fun _ => h.2, by omega⟩, fun z => by omega⟩
    unfold bk_i32
    rw [Bool.and_eq_true, decide_eq_true_eq, decide_eq_true_eq]
    omega
  · next e => cases e
  · cases h
section BH1
variable {p : Program} {l : Launch} {e : Env} {R : Room} {s : State} {m : MethodId} {args : Array Value} {below : List Frame} {meth : Method} {c : Code} {H : Heap} {locs : List Loc} {cells slots : Nat} {Q : State → Prop}
variable {cc : ByteArray} {pc : Nat} {ls : Array Slot} {i : Instr} {len : Nat} {aux : List Nat} {B : BE} {nu : List Int} {g : BG} {st : List BV} {vs : List Value} {t : BS} {own : String} {D : va_G} {A : Nat → Prop} {H0 : Heap}
set_option maxHeartbeats 2000000 in
theorem b_h1_ok (hx : p.tables.exec = Jvm.exec) (hb : c.code = cc) (hown : s.vm.findClass own = some m.cls) (hT : ∀ w, w ∈ lw_tbl → goodWord w = true → w.before args s = true) (hK : va_K D vwCl [] s) (hd : decode cc pc = .ok (i, len)) (hchk : ai_chk own i aux = true)
    (hB : bb_ok B s) (hg : bw_ok g) (ht : bs_ok nu g t) (hP : va_P D vwCl (bw B g) H) (hS : b_S B nu st vs) {r : List BV × BS} (h : b_h1 i len aux st t = some r)
    (k : ∀ (nv : List Int) (vs' : List Value), nu_le nu nv → bs_ok nv g r.2 → b_S B nv r.1 vs' → W p l e R s m args below meth c H locs cells slots Q (F0 m (pc + len) ls vs')) : W p l e R s m args below meth c H locs cells slots Q (F0 m pc ls vs) := by
  unfold b_h1 at h
  split at h
  · next ix ci j z o r2 =>
    match vs, hS with
    | [], hS => exact hS.elim
    | v :: vs, ⟨hv, hS⟩ =>
      obtain ⟨P, rfl, hp, hP2, hat⟩ := hv
      split at h
      · next q hq =>
        obtain ⟨ci', fs⟩ := q
        split at h
        · next hc =>
          obtain ⟨rfl, hc⟩ := hc
          have hc : ci' = ci := hc
          subst hc
          have hq2 : bk_tab[bk_at P]? = some (.inl (ci', fs)) := by rw [hat]; exact hq
          have hw : (bw B g)[P]? = some (b_ad B P, .inr (ci', bw_fs B (g P) P fs)) := by rw [bw_get B g hP2, bw_o hq2]
          obtain ⟨row, hr, -, hty⟩ := bk_obj hq
          have hchk : (match vwCl[ci']? with
            | some r => decide (j < r.2.2) && ai_w z (.fieldLink own ix r.1 (r.2.1 j).2.1 (r.2.1 j).2.2.1) && decide ((r.2.1 j).1 = r.1)
            | none => false) = true := hchk
          rw [hr] at hchk
          simp only [Bool.and_eq_true, decide_eq_true_eq] at hchk
          obtain ⟨⟨c1, c2⟩, c3⟩ := hchk
          obtain ⟨f1, f2, f3⟩ := ai_F_all ci' row hr
          obtain ⟨g1, g2⟩ := ai_w_ok c2
          have go : ∀ f : BF, fs[j]? = some f → W p l e R s m args below meth c H locs cells slots Q (F0 m (pc + 3) ls (bw_f B (g P) P j f :: vs)) → W p l e R s m args below meth c H locs cells slots Q (F0 m pc ls (.ref (b_ad B P) :: vs)) := fun f hf kk =>
            va_get (own := own) (ref := row.1) (C := row.1) (T := row.2.1) (N := row.2.2) (Ts := u_ws row.1 row.2.1 row.2.2) hx hb (fun w hw => hT w (f3 w hw) (ai_u_good _ _ _ w hw)) (fun w hw => hw) hown hK hP P hw hr j c1 (hT _ g1 g2) (fun x hx => by rw [c3] at hx; exact hx) (bw_fs_get hf) hd kk
          split at h
          · next f hf =>
            cases h
            have hsp : bk_spec (bk_at P) j = some (.inl f) := by rw [bk_sO hq2]; exact hf
            have hb1 := hg P j f hP2 hsp
            obtain ⟨nv, n1, n2, n3⟩ := bs_rd ht hg hP2 hat hp (li_e_c nu (j : Int)) (by rw [← hat]; exact hsp)
            exact go _ hf (k nv (_ :: vs) n1 n2 ⟨bw_fv (bk_tf_w (hty j _ hf)) hb1.1 hb1.2 n3, hS.mono n1⟩)
          · next f hf =>
            cases h
            have hsp : bk_spec (bk_at P) j = some (.inr f) := by rw [bk_sO hq2]; exact hf
            exact go _ hf (k nu (_ :: vs) nu_le.rf ht ⟨b_rt_ok hP2 hp (li_e_c nu (j : Int)) hsp, hS⟩)
          · cases h
        · cases h
      · cases h
  · next r2 ix n z =>
    split at h
    · next hc =>
      cases h
      subst hc
      have hchk : ai_w z (.constantLong own ix (Int64.ofNat n)) = true := hchk
      obtain ⟨g1, g2⟩ := ai_w_ok hchk
      exact lv_ldc2 hx hb hown (hT _ g1 g2) hd (k nu (_ :: vs) nu_le.rf ht ⟨bv_l.mpr ⟨_, rfl, li_e_c nu _⟩, hS⟩)
    · cases h
  · next o r2 =>
    match vs, hS with
    | [], hS => exact hS.elim
    | v :: vs, ⟨hv, hS⟩ =>
      obtain ⟨P, rfl, hp, hP2, hat⟩ := hv
      split at h
      · next q hq =>
        obtain ⟨tt, n, f⟩ := q
        split at h
        · next hc =>
          cases h
          subst hc
          have hq2 : bk_tab[bk_at P]? = some (.inr (tt, n, f)) := by rw [hat]; exact hq
          have hw : (bw B g)[P]? = some (b_ad B P, .inl (b_ac B P, n, bw_ar B (g P) P tt)) := by rw [bw_get B g hP2, bw_a hq2]
          obtain ⟨b1, b2, -⟩ := hB P tt n f hP2 hq2
          obtain ⟨-, hn⟩ := bk_arr hq
          refine va_alen hx hb (ai_K1 hK b1 b2) hP P 0 hw rfl rfl hd (k nu (_ :: vs) nu_le.rf ht ⟨bv_i.mpr ⟨_, rfl, ?_⟩, hS⟩)
          show li_e nu (li_c (n : Int)) = some (nI n).toInt
          rw [li_e_c, nI_toInt (by omega)]
        · cases h
      · cases h
  · next x o r2 _ =>
    match vs, hS with
    | [], hS => exact hS.elim
    | [_], ⟨_, hS⟩ => exact hS.elim
    | vj :: v :: vs, ⟨hvj, hv, hS⟩ =>
      obtain ⟨P, rfl, hp, hP2, hat⟩ := hv
      split at h
      · next q hq =>
        obtain ⟨tt, n, f⟩ := q
        split at h
        · next hc =>
          obtain ⟨rfl, hc1, hc2, hc3⟩ := hc
          obtain ⟨b, rfl, hxj⟩ := bv_N0 hc1 hvj
          obtain ⟨hin, hxn, hlt⟩ := b_in_ok ht hc2 hxj
          have hq2 : bk_tab[bk_at P]? = some (.inr (tt, n, f)) := by rw [hat]; exact hq
          have hw : (bw B g)[P]? = some (b_ad B P, .inl (b_ac B P, n, bw_ar B (g P) P tt)) := by rw [bw_get B g hP2, bw_a hq2]
          obtain ⟨b1, b2, b3⟩ := hB P tt n f hP2 hq2
          obtain ⟨hta, hn⟩ := bk_arr hq
          split at h
          · next f' hf' =>
            have hf' : f = .inl f' := hf'
            subst hf'
            cases h
            have hsp : bk_spec (bk_at P) b.toNatClampNeg = some (.inl f') := bk_sA hq2 hlt
            have hb1 := hg P _ f' hP2 hsp
            obtain ⟨nv, n1, n2, n3⟩ := bs_rd ht hg hP2 hat hp hxn (by rw [← hat]; exact hsp)
            obtain ⟨w1, w2, w3⟩ := bk_ta_w hta
            have hv1 : bv_V B nv (.inl (f'.1, (bs_q t o.1 o.2 x.2 f'.2.1 f'.2.2).2)) (bw_f B (g P) P b.toNatClampNeg (.inl f')) := bw_fv w1 hb1.1 hb1.2 n3
            rcases w1 with ⟨e0, -⟩ | ⟨e0, -⟩
            · obtain ⟨u1, u2, u3, u4⟩ := w2 e0
              have hw2 : (bw B g)[P]? = some (b_ad B P, .inl (b_ac B P, n, .inl (fun j => Int32.ofInt (g P j)))) := by
                rw [hw]; unfold bw_ar; rw [if_pos u1]
              rw [bw_f0 e0] at hv1
              unfold b_tg at hc3
              split at hc3
              · have e1 : tt = 1 := of_decide_eq_true hc3
                subst e1
                exact va_iald hx hb (ai_K1 hK b1 b2) hP P 0 hw2 rfl hin hd (k nv (_ :: vs) n1 n2 ⟨hv1, hS.mono n1⟩)
              · rcases (of_decide_eq_true hc3 : tt = 0 ∨ tt = 3) with e1 | e1
                · subst e1
                  exact va_bald hx hb (ai_K1 hK b1 b2) hP P 0 hw2 rfl hin hd (k nv (_ :: vs) n1 n2 ⟨hv1, hS.mono n1⟩)
                · subst e1
                  exact va_zald hx hb (ai_K1 hK b1 b2) hP P 0 hw2 rfl hin hd (k nv (_ :: vs) n1 n2 ⟨hv1, hS.mono n1⟩)
              · have e1 : tt = 2 := of_decide_eq_true hc3
                subst e1
                cases u1
              · have e1 : 4 ≤ tt := of_decide_eq_true hc3
                exact absurd u4 (by omega)
              · cases hc3
            · have e2 := w3 e0
              subst e2
              have hw2 : (bw B g)[P]? = some (b_ad B P, .inl (b_ac B P, n, .inr (.inl (fun j => Int64.ofInt (g P j))))) := by rw [hw]; rfl
              rw [bw_f1 e0] at hv1
              unfold b_tg at hc3
              split at hc3
              · cases (of_decide_eq_true hc3 : (2 : Nat) = 1)
              · rcases (of_decide_eq_true hc3 : (2 : Nat) = 0 ∨ (2 : Nat) = 3) with e1 | e1 <;> cases e1
              · exact va_lald hx hb (ai_K1 hK b1 b2) hP P 0 hw2 rfl hin hd (k nv (_ :: vs) n1 n2 ⟨hv1, hS.mono n1⟩)
              · exact absurd (of_decide_eq_true hc3 : 4 ≤ 2) (by omega)
              · cases hc3
          · next f' hf' =>
            have hf' : f = .inr f' := hf'
            subst hf'
            cases h
            have hsp : bk_spec (bk_at P) b.toNatClampNeg = some (.inr f') := bk_sA hq2 hlt
            have h4 : ∃ t4, tt = t4 + 4 := by
              unfold bk_ta at hta
              split at hta
              · next e => cases e
              · next e => cases e
              · next e => cases e
              · next e => cases e
              · next t4 _ _ => exact ⟨t4, rfl⟩
              · cases hta
            obtain ⟨t4, rfl⟩ := h4
            have hw2 : (bw B g)[P]? = some (b_ad B P, .inl (b_ac B P, n, .inr (.inr (.inr (.inr (b_rr B P)))))) := by rw [hw]; rfl
            unfold b_tg at hc3
            split at hc3
            · exact absurd (of_decide_eq_true hc3) (by omega)
            · exact absurd (of_decide_eq_true hc3) (by omega)
            · exact absurd (of_decide_eq_true hc3) (by omega)
            · refine va_aldq (C := ai_cl t4) hx hb (ai_K1 hK b1 b2) hP P 0 hw2 rfl hin hd (k nu (_ :: vs) nu_le.rf ht ⟨?_, hS⟩)
              rw [b3 f' rfl _ hlt]
              exact b_rt_ok hP2 hp hxn hsp
            · cases hc3
        · cases h
      · cases h
  · cases h
set_option maxHeartbeats 2000000 in
theorem b_h2_ok {md : List Nat} (hx : p.tables.exec = Jvm.exec) (hb : c.code = cc) (hown : s.vm.findClass own = some m.cls) (hT : ∀ w, w ∈ lw_tbl → goodWord w = true → w.before args s = true) (hK : va_K D vwCl [] s) (hd : decode cc pc = .ok (i, len)) (hchk : ai_chk own i aux = true)
    (hB : bb_ok B s) (hg : bw_ok g) (ht : bs_ok nu g t) (hP : va_P D vwCl (bw B g) H) (hD : va_D A (bw B g)) (hSs : va_S A H0 H locs) (hS : b_S B nu st vs) {r : List BV × BS} (h : b_h2 md i len aux st t = some r)
    (k : ∀ (g' : BG) (H' : Heap) (locs' : List Loc) (vs' : List Value), bg_same md g g' → bw_ok g' → bs_ok nu g' r.2 → va_P D vwCl (bw B g') H' → va_D A (bw B g') → va_S A H0 H' locs' → b_S B nu r.1 vs' → W p l e R s m args below meth c H' locs' cells slots Q (F0 m (pc + len) ls vs')) : W p l e R s m args below meth c H locs cells slots Q (F0 m pc ls vs) := by
  unfold b_h2 at h
  split at h
  · next ix ci j z v0 o r2 =>
    match vs, hS with
    | [], hS => exact hS.elim
    | [_], ⟨_, hS⟩ => exact hS.elim
    | u :: v :: vs, ⟨hu, hv, hS⟩ =>
      obtain ⟨P, rfl, hp, hP2, hat⟩ := hv
      split at h
      · next q hq =>
        obtain ⟨ci', fs⟩ := q
        split at h
        · next f row hf hr =>
          split at h
          · next hc =>
            cases h
            obtain ⟨rfl, hc1, hc2, hc3, hc4, hc5⟩ := hc
            have hc1 : ci' = ci := hc1
            subst hc1
            have hf : fs[j]? = some (.inl f) := hf
            have hq2 : bk_tab[bk_at P]? = some (.inl (ci', fs)) := by rw [hat]; exact hq
            have hw : (bw B g)[P]? = some (b_ad B P, .inr (ci', bw_fs B (g P) P fs)) := by rw [bw_get B g hP2, bw_o hq2]
            obtain ⟨row2, hr2, -, hty⟩ := bk_obj hq
            rw [hr] at hr2
            cases hr2
            have hchk : (match vwCl[ci']? with
              | some r => decide (j < r.2.2) && ai_w z (.fieldLink own ix r.1 (r.2.1 j).2.1 (r.2.1 j).2.2.1) && decide ((r.2.1 j).1 = r.1) && (!(r.2.1 j).2.2.2 || decide (r.1 = own))
              | none => false) = true := hchk
            rw [hr] at hchk
            simp only [Bool.and_eq_true, decide_eq_true_eq, Bool.or_eq_true, Bool.not_eq_true'] at hchk
            obtain ⟨⟨⟨c1, c2⟩, c3⟩, -⟩ := hchk
            obtain ⟨f1, f2, f3⟩ := ai_F_all ci' row hr
            obtain ⟨g1, g2⟩ := ai_w_ok c2
            have hlen : j < (bw_fs B (g P) P fs).length := by rw [bw_fs_len]; exact (List.getElem?_eq_some_iff.mp hf).1
            have hsp : bk_spec (bk_at P) j = some (.inl f) := by rw [bk_sO hq2]; exact hf
            have tfw := hty j _ hf
            have key : ∃ zz : Int, li_e nu v0.2 = some zz ∧ u = (if f.1 = 0 then Value.int (Int32.ofInt zz) else .long (Int64.ofInt zz)) ∧ narrow (ai_tf ci' j) u = u ∧ fits (ai_tf ci' j) u = true := by
              rcases bk_tf_w tfw with ⟨e0, -⟩ | ⟨e0, -⟩
              · obtain ⟨x, rfl, hx2⟩ := bv_N0 (hc2.trans e0) hu
                have hfit := bs_fit_ok ht hc3 hx2
                refine ⟨x.toInt, hx2, by rw [if_pos e0, fb_asI], ?_⟩
                unfold bk_tf at tfw
                split at tfw
                · next q e1 e2 => rw [e1]; exact ⟨rfl, rfl⟩
                · next q e1 e2 =>
                  cases e2
                  rw [Bool.and_eq_true, Bool.and_eq_true, decide_eq_true_eq, decide_eq_true_eq, decide_eq_true_eq] at tfw
                  rw [e1]
                  rcases ai_bool (x := x) (by omega) (by omega) with rfl | rfl
                  · exact ⟨rfl, rfl⟩
                  · exact ⟨rfl, rfl⟩
                · next q e1 e2 =>
                  cases e2
                  rw [Bool.and_eq_true, decide_eq_true_eq] at tfw
                  exact absurd (e0.symm.trans tfw.1) (by decide)
                · next e => cases e
                · next e => cases e
                · cases tfw
              · obtain ⟨x, rfl, hx2⟩ := bv_N1 (hc2.trans e0) hu
                refine ⟨x.toInt, hx2, by rw [if_neg (by omega), fb_asL], ?_⟩
                unfold bk_tf at tfw
                split at tfw
                · next q e1 e2 =>
                  cases e2
                  rw [Bool.and_eq_true, decide_eq_true_eq] at tfw
                  exact absurd (e0.symm.trans tfw.1) (by decide)
                · next q e1 e2 =>
                  cases e2
                  rw [Bool.and_eq_true, decide_eq_true_eq] at tfw
                  exact absurd (e0.symm.trans tfw.1) (by decide)
                · next q e1 e2 => rw [e1]; exact ⟨rfl, rfl⟩
                · next e => cases e
                · next e => cases e
                · cases tfw
            obtain ⟨zz, z1, z2, z3, z4⟩ := key
            have hfit := bs_fit_ok ht hc3 z1
            refine va_put (own := own) (ref := row.1) (C := row.1) (T := row.2.1) (N := row.2.2) (Ts := u_ws row.1 row.2.1 row.2.2) hx hb (fun w hw => hT w (f3 w hw) (ai_u_good _ _ _ w hw)) (fun w hw => hw) (ai_tf ci') f1 f2 hown hK hP hD hSs P hw hr j c1 (hT _ g1 g2) (fun x hx => by rw [c3] at hx; exact hx) hc4 (f1 j c1) z3 z4 hlen hd (fun H1 locs1 p1 d1 s1 => ?_)
            rw [z2, bw_setO hP2 hq2 hf zz] at p1 d1
            exact k _ H1 locs1 vs (bg_same.up hP2 (by rw [hat]; exact hc5)) (hg.up (fun q hq3 => by rw [hsp] at hq3; cases hq3; exact hfit)) (b_wr_ok ht hP2 hat (bk_lt (by rw [hat] at hsp; exact hsp)) hp (li_e_c nu (j : Int)) z1) p1 d1 s1 hS
          · cases h
        · cases h
      · cases h
  · next v0 x o r2 =>
    match vs, hS with
    | [], hS => exact hS.elim
    | [_], ⟨_, hS⟩ => exact hS.elim
    | [_, _], ⟨_, _, hS⟩ => exact hS.elim
    | u :: vj :: v :: vs, ⟨hu, hvj, hv, hS⟩ =>
      obtain ⟨P, rfl, hp, hP2, hat⟩ := hv
      split at h
      · next q hq =>
        obtain ⟨tt, n, f0⟩ := q
        split at h
        · next f hf =>
          have hf : f0 = .inl f := hf
          subst hf
          split at h
          · next hc =>
            cases h
            obtain ⟨rfl, hc1, hc2, hc3, hc4, hc5, hc6⟩ := hc
            obtain ⟨b, rfl, hxj⟩ := bv_N0 hc1 hvj
            obtain ⟨hin, hxn, hlt⟩ := b_in_ok ht hc3 hxj
            have hq2 : bk_tab[bk_at P]? = some (.inr (tt, n, .inl f)) := by rw [hat]; exact hq
            have hw : (bw B g)[P]? = some (b_ad B P, .inl (b_ac B P, n, bw_ar B (g P) P tt)) := by rw [bw_get B g hP2, bw_a hq2]
            obtain ⟨b1, b2, -⟩ := hB P tt n _ hP2 hq2
            obtain ⟨hta, hn⟩ := bk_arr hq
            have hsp : bk_spec (bk_at P) b.toNatClampNeg = some (.inl f) := bk_sA hq2 hlt
            obtain ⟨w1, w2, w3⟩ := bk_ta_w hta
            have hcode : ∀ j, bk_code (bk_at P) j ∈ md := fun j => by
              unfold bk_code at hc6 ⊢
              rw [hq2]
              rw [hq] at hc6
              rw [hat]
              exact hc6
            have fin : ∀ (zz : Int) (H1 : Heap) (locs1 : List Loc), li_e nu v0.2 = some zz → va_P D vwCl (bw B (bg_up g P b.toNatClampNeg zz)) H1 → va_D A (bw B (bg_up g P b.toNatClampNeg zz)) → va_S A H0 H1 locs1 → W p l e R s m args below meth c H1 locs1 cells slots Q (F0 m (pc + 1) ls vs) := fun zz H1 locs1 z1 p1 d1 s1 => by
              have hfit := bs_fit_ok ht hc5 z1
              exact k _ H1 locs1 vs (bg_same.up hP2 (hcode _)) (hg.up (fun q hq3 => by rw [hsp] at hq3; cases hq3; exact hfit)) (b_wr_ok ht hP2 hat (bk_lt (by rw [hat] at hsp; exact hsp)) hp hxn z1) p1 d1 s1 hS
            rcases w1 with ⟨e0, -⟩ | ⟨e0, -⟩
            · obtain ⟨u1, u2, u3, u4⟩ := w2 e0
              obtain ⟨y, rfl, hy⟩ := bv_N0 (hc2.trans e0) hu
              have hfit := bs_fit_ok ht hc5 hy
              have hw2 : (bw B g)[P]? = some (b_ad B P, .inl (b_ac B P, n, .inl (fun j => Int32.ofInt (g P j)))) := by
                rw [hw]; unfold bw_ar; rw [if_pos u1]
              unfold b_ts at hc4
              split at hc4
              · have e1 : tt = 1 := of_decide_eq_true hc4
                subst e1
                refine va_iast hx hb (ai_K1 hK b1 b2) hP hD hSs P 0 hw2 rfl hin hd (fun H1 locs1 p1 d1 s1 => ?_)
                rw [bw_setI hP2 hq2 u1] at p1 d1
                exact fin _ H1 locs1 hy p1 d1 s1
              · rcases (of_decide_eq_true hc4 : tt = 0 ∨ tt = 3) with e1 | e1
                · subst e1
                  have hb3 := u2 rfl
                  refine va_bast hx hb (ai_K1 hK b1 b2) hP hD hSs P 0 hw2 rfl hin hd (fun H1 locs1 p1 d1 s1 => ?_)
                  rw [vp_nar_byte, fb_byte (x := y) (by omega) (by omega), bw_setI hP2 hq2 u1] at p1 d1
                  exact fin _ H1 locs1 hy p1 d1 s1
                · subst e1
                  have hb3 := u3 rfl
                  have hbo : vp_nar .boolean y = y := by
                    rcases ai_bool (x := y) (by omega) (by omega) with rfl | rfl <;> rfl
                  refine va_zast hx hb (ai_K1 hK b1 b2) hP hD hSs P 0 hw2 rfl hin hd (fun H1 locs1 p1 d1 s1 => ?_)
                  rw [hbo, bw_setI hP2 hq2 u1] at p1 d1
                  exact fin _ H1 locs1 hy p1 d1 s1
              · have e1 : tt = 2 := of_decide_eq_true hc4
                subst e1
                cases u1
              · cases hc4
            · have e2 := w3 e0
              subst e2
              obtain ⟨y, rfl, hy⟩ := bv_N1 (hc2.trans e0) hu
              have hw2 : (bw B g)[P]? = some (b_ad B P, .inl (b_ac B P, n, .inr (.inl (fun j => Int64.ofInt (g P j))))) := by rw [hw]; rfl
              unfold b_ts at hc4
              split at hc4
              · cases (of_decide_eq_true hc4 : (2 : Nat) = 1)
              · rcases (of_decide_eq_true hc4 : (2 : Nat) = 0 ∨ (2 : Nat) = 3) with e1 | e1 <;> cases e1
              · refine va_last hx hb (ai_K1 hK b1 b2) hP hD hSs P 0 hw2 rfl hin hd (fun H1 locs1 p1 d1 s1 => ?_)
                rw [bw_setL hP2 hq2 rfl] at p1 d1
                exact fin _ H1 locs1 hy p1 d1 s1
              · cases hc4
          · cases h
        · cases h
      · cases h
  · cases h
end BH1
