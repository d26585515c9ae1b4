/-! ===== the instructions that use the world ===== -/
def lw_blk (b : Nat) : List Cond := match b with
  | 0 => k2_sels lw_privs
  | 1 => tables_1_1
  | 2 => tables_1_2
  | 3 => tables_1_3
  | 4 => tables_1_4
  | 5 => tables_1_5
  | 6 => tables_1_6
  | 7 => tables_1_7
  | _ => []
theorem lw_blk_in {b : Nat} {w : Cond} (h : w ∈ lw_blk b) : w ∈ lw_tbl := by
  have e : lw_tbl = k2_sels lw_privs ++ (tables_1_1 ++ (tables_1_2 ++ (tables_1_3 ++ (tables_1_4 ++ (tables_1_5 ++ (tables_1_6 ++ tables_1_7)))))) := rfl
  rw [e]
  unfold lw_blk at h
  simp only [List.mem_append]
  split at h
  · exact Or.inl h
  · exact Or.inr (Or.inl h)
  · exact Or.inr (Or.inr (Or.inl h))
  · exact Or.inr (Or.inr (Or.inr (Or.inl h)))
  · exact Or.inr (Or.inr (Or.inr (Or.inr (Or.inl h))))
  · exact Or.inr (Or.inr (Or.inr (Or.inr (Or.inr (Or.inl h)))))
  · exact Or.inr (Or.inr (Or.inr (Or.inr (Or.inr (Or.inr (Or.inl h))))))
  · exact Or.inr (Or.inr (Or.inr (Or.inr (Or.inr (Or.inr (Or.inr h))))))
  · cases h
def ai_wb (t : Nat) (w : Cond) : Bool := decide ((lw_blk (t / 1000))[t % 1000]? = some w)
theorem ai_wb_ok {t : Nat} {w : Cond} (h : ai_wb t w = true) : w ∈ lw_tbl := lw_blk_in (List.mem_of_getElem? (of_decide_eq_true h))
def ai_w (t : Nat) (w : Cond) : Bool := ai_wb t w && goodWord w
theorem ai_w_ok {t : Nat} {w : Cond} (h : ai_w t w = true) : w ∈ lw_tbl ∧ goodWord w = true := by
  unfold ai_w at h
  rw [Bool.and_eq_true] at h
  exact ⟨ai_wb_ok h.1, h.2⟩
/-- what is looked up in the tables for an instruction, by places -/
def ai_chk (own : String) (i : Instr) (aux : List Nat) : Bool := match i, aux with
  | .getfield x, [ci, k, t] => match vwCl[ci]? with
    | some r => decide (k < r.2.2) && ai_w t (.fieldLink own x r.1 (r.2.1 k).2.1 (r.2.1 k).2.2.1) && decide ((r.2.1 k).1 = r.1)
    | none => false
  | .putfield x, [ci, k, t] => match vwCl[ci]? with
    | some r => decide (k < r.2.2) && ai_w t (.fieldLink own x r.1 (r.2.1 k).2.1 (r.2.1 k).2.2.1) && decide ((r.2.1 k).1 = r.1) && (!(r.2.1 k).2.2.2 || decide (r.1 = own))
    | none => false
  | .new x, [ci, t1, t2, t3] => match vwCl[ci]? with
    | some r => ai_w t1 (.classLink own x r.1) && ai_w t2 (.instantiable r.1 r.2.2) && ai_w t3 (.initialized r.1) && (List.range r.2.2).all (fun k => ai_ok (ai_tf ci k))
    | none => false
  | .newarray y, [t, t1] => decide (ai_ty t = newarray.typeOf y) && ai_w t1 (.arrayClass (newarray.typeOf y)) && decide (t < 4)
  | .anewarray x, [ci, t1, t2] => ai_w t1 (.classLink own x (ai_cl ci)) && ai_wb t2 (.arrayOver (.object (ai_cl ci)))
  | .ldc2_w x, [n, t] => ai_w t (.constantLong own x (Int64.ofNat n))
  | _, _ => true
def ai_h1 (i : Instr) (len : Nat) (aux : List Nat) (st : List AV) (σ : List AC) : Option (List AV) := match i, len, aux, st with
  | .getfield _, 3, [ci, k, _], x :: r => match ai_ob σ x ci with
    | some o => match o.2[k]? with
      | some v => some (v :: r)
      | none => none
    | none => none
  | .ldc2_w _, 3, [n, _], r => some (.inr (.inr (.inl (some (Int64.ofNat n)))) :: r)
  | .arraylength, 1, _, x :: r => match ai_ar σ x with
    | some o => some (.inl (Int32.ofNat o.2.2.1) :: r)
    | none => none
  | .iaload, 1, _, j :: x :: r => match ai_ar σ x with
    | some o => match ai_ix j o.2.2.1 with
      | some k => if o.2.1 = 1 then some (o.2.2.2 k :: r) else none
      | none => none
    | none => none
  | .baload, 1, _, j :: x :: r => match ai_ar σ x with
    | some o => match ai_ix j o.2.2.1 with
      | some k => if o.2.1 = 0 ∨ o.2.1 = 3 then some (o.2.2.2 k :: r) else none
      | none => none
    | none => none
  | .laload, 1, _, j :: x :: r => match ai_ar σ x with
    | some o => match ai_ix j o.2.2.1 with
      | some k => if o.2.1 = 2 then some (o.2.2.2 k :: r) else none
      | none => none
    | none => none
  | .aaload, 1, _, j :: x :: r => match ai_ar σ x with
    | some o => match ai_ix j o.2.2.1 with
      | some k => if 4 ≤ o.2.1 then some (o.2.2.2 k :: r) else none
      | none => none
    | none => none
  | _, _, _, _ => none
def ai_nb (a : AV) : AV := match a with
  | .inl c => .inl (vp_nar .byte c)
  | _ => ai_top
def ai_nz (a : AV) : AV := match a with
  | .inl c => .inl (vp_nar .boolean c)
  | _ => ai_top
def ai_h2 (ini : Bool) (i : Instr) (len : Nat) (aux : List Nat) (st : List AV) (σ : List AC) : Option (List AV × List AC) := match i, len, aux, st with
  | .putfield _, 3, [ci, k, _], v :: x :: r => match ai_ob σ x ci with
    | some o => match vwCl[ci]? with
      | some q => if k < o.2.length ∧ ai_fit (ai_tf ci k) v = true ∧ ((q.2.1 k).2.2.2 = true → ini = true) then some (r, σ.set o.1 (.inr (ci, o.2.set k v))) else none
      | none => none
    | none => none
  | .iastore, 1, _, v :: j :: x :: r => match ai_ar σ x with
    | some o => match ai_ix j o.2.2.1 with
      | some k => if o.2.1 = 1 ∧ ai_cat v = 1 then some (r, σ.set o.1 (.inl (o.2.1, o.2.2.1, ai_up o.2.2.2 k v))) else none
      | none => none
    | none => none
  | .bastore, 1, _, v :: j :: x :: r => match ai_ar σ x with
    | some o => match ai_ix j o.2.2.1 with
      | some k => if ai_cat v = 1 then (if o.2.1 = 0 then some (r, σ.set o.1 (.inl (o.2.1, o.2.2.1, ai_up o.2.2.2 k (ai_nb v)))) else if o.2.1 = 3 then some (r, σ.set o.1 (.inl (o.2.1, o.2.2.1, ai_up o.2.2.2 k (ai_nz v)))) else none) else none
      | none => none
    | none => none
  | .lastore, 1, _, v :: j :: x :: r => match ai_ar σ x with
    | some o => match ai_ix j o.2.2.1 with
      | some k => if o.2.1 = 2 ∧ ai_cat v = 2 then some (r, σ.set o.1 (.inl (o.2.1, o.2.2.1, ai_up o.2.2.2 k v))) else none
      | none => none
    | none => none
  | .aastore, 1, _, v :: j :: x :: r => match ai_ar σ x with
    | some o => match ai_ix j o.2.2.1 with
      | some k => match ai_ob σ v (o.2.1 - 4) with
        | some _ => match vwCl[o.2.1 - 4]? with
          | some _ => if 4 ≤ o.2.1 then some (r, σ.set o.1 (.inl (o.2.1, o.2.2.1, ai_up o.2.2.2 k v))) else none
          | none => none
        | none => none
      | none => none
    | none => none
  | _, _, _, _ => none
def ai_dfa (t : Nat) : AV := if ai_kd t = 0 then .inl 0 else if ai_kd t = 1 then .inr (.inr (.inl (some 0))) else .inr (.inr (.inr (.inl none)))
def ai_h3 (i : Instr) (len : Nat) (aux : List Nat) (st : List AV) (σ : List AC) : Option (List AV × AC × Nat) := match i, len, aux, st with
  | .new _, 3, [ci, _, _, _], r => match vwCl[ci]? with
    | some q => some (r, .inr (ci, ai_fd ci q.2.2), q.2.2)
    | none => none
  | .newarray _, 2, [t, _], n :: r => match ai_ix n 100000 with
    | some k => some (r, .inl (t, k, fun _ => ai_dfa t), k)
    | none => none
  | .anewarray _, 3, [ci, _, _], n :: r => match ai_ix n 100000 with
    | some k => some (r, .inl (ci + 4, k, fun _ => .inr (.inr (.inr (.inl none)))), k)
    | none => none
  | _, _, _, _ => none
section AIH
variable {p : Program} {l : Launch} {e : Env} {R : Room} {s : State} {m : MethodId} {args : Array Value} {below : List Frame} {meth : Method} {c : Code} {H : Heap} {locs : List Loc} {cells slots : Nat} {Q : State → Prop}
variable {cc : ByteArray} {pc : Nat} {ls : Array Slot} {i : Instr} {len : Nat} {aux : List Nat} {E : AE} {ws : va_W} {st st' : List AV} {vs : List Value} {σ σ' : List AC} {own : String} {D : va_G} {A : Nat → Prop} {H0 : Heap}
theorem ai_K1 (hK : va_K D vwCl [] s) {cA : ClassId} {ty : FieldType} (h1 : ArrOfT s cA ty) (h2 : va_RA s cA ty) : va_K D vwCl [(cA, ty)] s :=
  ⟨hK.1, fun k q h => match k, h with
    | 0, h => by cases h; exact ⟨h1, h2⟩⟩
theorem ai_h1_ok (hx : p.tables.exec = Jvm.exec) (hb : c.code = cc) (hown : s.vm.findClass own = some m.cls) (hT : ∀ w, w ∈ lw_tbl → goodWord w = true → w.before args s = true) (hK : va_K D vwCl [] s) (hd : decode cc pc = .ok (i, len)) (hchk : ai_chk own i aux = true)
    (w : ai_W E s σ ws) (hP : va_P D vwCl ws H) (hS : ai_S E ws st vs) (h : ai_h1 i len aux st σ = some st')
    (k : ∀ vs' : List Value, ai_S E ws st' vs' → W p l e R s m args below meth c H locs cells slots Q (F0 m (pc + len) ls vs')) : W p l e R s m args below meth c H locs cells slots Q (F0 m pc ls vs) := by
  unfold ai_h1 at h
  split at h
  · next ix ci kk t x r =>
    match vs, hS with
    | [], hS => exact hS.elim
    | v :: vs, ⟨hv, hS⟩ =>
      split at h
      · next o ho =>
        obtain ⟨oi, fs⟩ := o
        obtain ⟨a, us, rfl, hw, hfs⟩ := ai_ob_ok ho w hv
        split at h
        · next y hy =>
          cases h
          obtain ⟨u, hu, hyu⟩ := ai_S_get hfs hy
          have hchk : (match vwCl[ci]? with
            | some r => decide (kk < r.2.2) && ai_w t (.fieldLink own ix r.1 (r.2.1 kk).2.1 (r.2.1 kk).2.2.1) && decide ((r.2.1 kk).1 = r.1)
            | none => false) = true := hchk
          cases hr : vwCl[ci]? with
          | none => rw [hr] at hchk; cases hchk
          | some r =>
            rw [hr] at hchk
            simp only [Bool.and_eq_true, decide_eq_true_eq] at hchk
            obtain ⟨⟨c1, c2⟩, c3⟩ := hchk
            obtain ⟨f1, f2, f3⟩ := ai_F_all ci r hr
            obtain ⟨g1, g2⟩ := ai_w_ok c2
            refine va_get (own := own) (ref := r.1) (C := r.1) (T := r.2.1) (N := r.2.2) (Ts := u_ws r.1 r.2.1 r.2.2) hx hb (fun w hw => hT w (f3 w hw) (ai_u_good _ _ _ w hw)) (fun w hw => hw) hown hK hP oi hw hr kk c1 (hT _ g1 g2) (fun x hx => by rw [c3] at hx; exact hx) hu hd ?_
            exact k (u :: vs) ⟨hyu, hS⟩
        · cases h
      · cases h
  · next r ix n t =>
    cases h
    have hchk : ai_w t (.constantLong own ix (Int64.ofNat n)) = true := hchk
    obtain ⟨g1, g2⟩ := ai_w_ok hchk
    exact lv_ldc2 hx hb hown (hT _ g1 g2) hd (k (_ :: vs) ⟨rfl, hS⟩)
  · next x r =>
    match vs, hS with
    | [], hS => exact hS.elim
    | v :: vs, ⟨hv, hS⟩ =>
      split at h
      · next o ho =>
        obtain ⟨oi, t, n, f⟩ := o
        obtain ⟨a, cA, y, rfl, hw, h1, h2, h3⟩ := ai_ar_ok ho w hv
        cases h
        exact va_alen hx hb (ai_K1 hK h1 h2) hP oi 0 hw rfl rfl hd (k (_ :: vs) ⟨rfl, hS⟩)
      · cases h
  · next j x r =>
    match vs, hS with
    | [], hS => exact hS.elim
    | [_], ⟨_, hS⟩ => exact hS.elim
    | vj :: v :: vs, ⟨hvj, hv, hS⟩ =>
      split at h
      · next o ho =>
        obtain ⟨oi, t, n, f⟩ := o
        obtain ⟨a, cA, y, rfl, hw, h1, h2, h3⟩ := ai_ar_ok ho w hv
        split at h
        · next kk hk =>
          obtain ⟨b, rfl, hin, rfl⟩ := ai_ix_ok hk hvj
          split at h
          · next ht =>
            cases h
            have ht : t = 1 := ht
            subst ht
            match y, h3, hw with
            | .inl g, h3, hw => exact va_iald hx hb (ai_K1 hK h1 h2) hP oi 0 hw rfl hin hd (k (_ :: vs) ⟨h3 _ (ai_in_lt hin), hS⟩)
            | .inr (.inl g), h3, hw => exact h3.elim
            | .inr (.inr (.inl g)), h3, hw => exact h3.elim
            | .inr (.inr (.inr (.inl g))), h3, hw => exact h3.elim
            | .inr (.inr (.inr (.inr g))), h3, hw => exact h3.elim
          · cases h
        · cases h
      · cases h
  · next j x r =>
    match vs, hS with
    | [], hS => exact hS.elim
    | [_], ⟨_, hS⟩ => exact hS.elim
    | vj :: v :: vs, ⟨hvj, hv, hS⟩ =>
      split at h
      · next o ho =>
        obtain ⟨oi, t, n, f⟩ := o
        obtain ⟨a, cA, y, rfl, hw, h1, h2, h3⟩ := ai_ar_ok ho w hv
        split at h
        · next kk hk =>
          obtain ⟨b, rfl, hin, rfl⟩ := ai_ix_ok hk hvj
          split at h
          · next ht =>
            cases h
            have ht : t = 0 ∨ t = 3 := ht
            rcases ht with ht | ht
            · subst ht
              match y, h3, hw with
              | .inl g, h3, hw => exact va_bald hx hb (ai_K1 hK h1 h2) hP oi 0 hw rfl hin hd (k (_ :: vs) ⟨h3 _ (ai_in_lt hin), hS⟩)
              | .inr (.inl g), h3, hw => exact h3.elim
              | .inr (.inr (.inl g)), h3, hw => exact h3.elim
              | .inr (.inr (.inr (.inl g))), h3, hw => exact h3.elim
              | .inr (.inr (.inr (.inr g))), h3, hw => exact h3.elim
            · subst ht
              match y, h3, hw with
              | .inl g, h3, hw => exact va_zald hx hb (ai_K1 hK h1 h2) hP oi 0 hw rfl hin hd (k (_ :: vs) ⟨h3 _ (ai_in_lt hin), hS⟩)
              | .inr (.inl g), h3, hw => exact h3.elim
              | .inr (.inr (.inl g)), h3, hw => exact h3.elim
              | .inr (.inr (.inr (.inl g))), h3, hw => exact h3.elim
              | .inr (.inr (.inr (.inr g))), h3, hw => exact h3.elim
          · cases h
        · cases h
      · cases h
  · next j x r =>
    match vs, hS with
    | [], hS => exact hS.elim
    | [_], ⟨_, hS⟩ => exact hS.elim
    | vj :: v :: vs, ⟨hvj, hv, hS⟩ =>
      split at h
      · next o ho =>
        obtain ⟨oi, t, n, f⟩ := o
        obtain ⟨a, cA, y, rfl, hw, h1, h2, h3⟩ := ai_ar_ok ho w hv
        split at h
        · next kk hk =>
          obtain ⟨b, rfl, hin, rfl⟩ := ai_ix_ok hk hvj
          split at h
          · next ht =>
            cases h
            have ht : t = 2 := ht
            subst ht
            match y, h3, hw with
            | .inl g, h3, hw => exact h3.elim
            | .inr (.inl g), h3, hw => exact va_lald hx hb (ai_K1 hK h1 h2) hP oi 0 hw rfl hin hd (k (_ :: vs) ⟨h3 _ (ai_in_lt hin), hS⟩)
            | .inr (.inr (.inl g)), h3, hw => exact h3.elim
            | .inr (.inr (.inr (.inl g))), h3, hw => exact h3.elim
            | .inr (.inr (.inr (.inr g))), h3, hw => exact h3.elim
          · cases h
        · cases h
      · cases h
  · next j x r =>
    match vs, hS with
    | [], hS => exact hS.elim
    | [_], ⟨_, hS⟩ => exact hS.elim
    | vj :: v :: vs, ⟨hvj, hv, hS⟩ =>
      split at h
      · next o ho =>
        obtain ⟨oi, t, n, f⟩ := o
        obtain ⟨a, cA, y, rfl, hw, h1, h2, h3⟩ := ai_ar_ok ho w hv
        split at h
        · next kk hk =>
          obtain ⟨b, rfl, hin, rfl⟩ := ai_ix_ok hk hvj
          split at h
          · next ht =>
            cases h
            have ht : 4 ≤ t := ht
            obtain ⟨t4, rfl⟩ : ∃ t4, t = t4 + 4 := ⟨t - 4, by omega⟩
            match y, h3, hw with
            | .inl g, h3, hw => exact h3.elim
            | .inr (.inl g), h3, hw => exact h3.elim
            | .inr (.inr (.inl g)), h3, hw => exact h3.elim
            | .inr (.inr (.inr (.inl g))), h3, hw => exact h3.elim
            | .inr (.inr (.inr (.inr g))), h3, hw => exact va_aldq hx hb (ai_K1 hK h1 h2) hP oi 0 hw rfl hin hd (k (_ :: vs) ⟨h3 _ (ai_in_lt hin), hS⟩)
          · cases h
        · cases h
      · cases h
  · cases h
end AIH
