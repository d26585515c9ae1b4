/-! ===== the groups' laws over the machine ===== -/
def ai_KW (p : Program) (l : Launch) (e : Env) (R : Room) (s : State) (m : MethodId) (args : Array Value) (below : List Frame) (meth : Method) (c : Code) (H : Heap) (locs : List Loc) (cells slots : Nat) (Q : State → Prop) (E : AE) (ws : va_W) (nL : Nat) (r : Nat × ALo × List AV) : Prop :=
  ∀ (ls : Array Slot) (lv : List (Nat × Value)) (vs : List Value), lv_has ls nL lv → ai_L E ws r.2.1 lv → ai_S E ws r.2.2 vs → W p l e R s m args below meth c H locs cells slots Q (F0 m r.1 ls vs)
section AIG
variable {p : Program} {l : Launch} {e : Env} {R : Room} {s : State} {m : MethodId} {args : Array Value} {below : List Frame} {meth : Method} {c : Code} {H : Heap} {locs : List Loc} {cells slots : Nat} {Q : State → Prop}
variable {cc : ByteArray} {pc : Nat} {ls : Array Slot} {i : Instr} {len nL : Nat} {E : AE} {ws : va_W} {lo : ALo} {st : List AV} {lv : List (Nat × Value)} {vs : List Value} {r : Nat × ALo × List AV}
theorem ai_g1_ok (hx : p.tables.exec = Jvm.exec) (hb : c.code = cc) (hd : decode cc pc = .ok (i, len)) (hl : lv_has ls nL lv) (hL : ai_L E ws lo lv) (hS : ai_S E ws st vs) (h : ai_g1 i len pc lo st = some r)
    (k : ai_KW p l e R s m args below meth c H locs cells slots Q E ws nL r) : W p l e R s m args below meth c H locs cells slots Q (F0 m pc ls vs) := by
  unfold ai_g1 at h
  split at h
  · next a ha =>
    cases h
    exact ai_cs_ok hx hb ha hd E ws (fun v hv => k ls lv (v :: vs) hl hL ⟨hv, hS⟩)
  · cases h
theorem ai_g2_ok (hx : p.tables.exec = Jvm.exec) (hb : c.code = cc) (hd : decode cc pc = .ok (i, len)) (hl : lv_has ls nL lv) (hL : ai_L E ws lo lv) (hS : ai_S E ws st vs) (h : ai_g2 i len pc lo st = some r)
    (k : ai_KW p l e R s m args below meth c H locs cells slots Q E ws nL r) : W p l e R s m args below meth c H locs cells slots Q (F0 m pc ls vs) := by
  unfold ai_g2 at h
  split at h
  · cases h
  · next jt hjt =>
    split at h
    · cases h
    · next q hq =>
      split at h
      · next hc =>
        cases h
        obtain ⟨k2, v, h1, h2⟩ := ai_find jt.1 hL hq
        exact ai_ld_ok hx hb hjt hd (lv_at hl k2 h1) hc h2 (k ls lv (v :: vs) hl hL ⟨h2, hS⟩)
      · cases h
theorem ai_g3_ok (hx : p.tables.exec = Jvm.exec) (hb : c.code = cc) (hd : decode cc pc = .ok (i, len)) (hl : lv_has ls nL lv) (hL : ai_L E ws lo lv) (hS : ai_S E ws st vs) (h : ai_g3 nL i len pc lo st = some r)
    (k : ai_KW p l e R s m args below meth c H locs cells slots Q E ws nL r) : W p l e R s m args below meth c H locs cells slots Q (F0 m pc ls vs) := by
  unfold ai_g3 at h
  split at h
  · next jt a st' hjt =>
    match vs, hS with
    | [], hS => exact hS.elim
    | v :: vs, ⟨hv, hS⟩ =>
      split at h
      · next hc =>
        cases h
        exact ai_sr_ok hx hb hjt hd hl hc.2.1 hc.2.2 hc.1 hv (fun ls' hl' => k ls' _ vs hl' ⟨⟨rfl, hv⟩, ai_filter jt.1 jt.2 hL⟩ hS)
      · cases h
  · cases h
theorem ai_g4_ok {op : Option Int32} (hop : ∀ k, op = some k → e_0 E &&& 15 = k) (hx : p.tables.exec = Jvm.exec) (hb : c.code = cc) (hd : decode cc pc = .ok (i, len)) (hl : lv_has ls nL lv) (hL : ai_L E ws lo lv) (hS : ai_S E ws st vs) (h : ai_g4 op i len pc lo st = some r)
    (k : ai_KW p l e R s m args below meth c H locs cells slots Q E ws nL r) : W p l e R s m args below meth c H locs cells slots Q (F0 m pc ls vs) := by
  unfold ai_g4 at h
  split at h
  · next f y x st' hf =>
    match vs, hS with
    | [], hS => exact hS.elim
    | [_], ⟨_, hS⟩ => exact hS.elim
    | w :: v :: vs, ⟨hw, hv, hS⟩ =>
      split at h
      · next hc =>
        cases h
        obtain ⟨a, rfl⟩ := ai_V_int hc.1 hv
        obtain ⟨b, rfl⟩ := ai_V_int hc.2 hw
        exact ai_bi_ok hx hb hf hd (k ls lv (_ :: vs) hl hL ⟨ai_r1_ok hop hf hv hw, hS⟩)
      · cases h
  · cases h
theorem ai_g5_ok (hx : p.tables.exec = Jvm.exec) (hb : c.code = cc) (hd : decode cc pc = .ok (i, len)) (hl : lv_has ls nL lv) (hL : ai_L E ws lo lv) (hS : ai_S E ws st vs) (h : ai_g5 i len pc lo st = some r)
    (k : ai_KW p l e R s m args below meth c H locs cells slots Q E ws nL r) : W p l e R s m args below meth c H locs cells slots Q (F0 m pc ls vs) := by
  unfold ai_g5 at h
  split at h
  · next f y x st' hf =>
    match vs, hS with
    | [], hS => exact hS.elim
    | [_], ⟨_, hS⟩ => exact hS.elim
    | w :: v :: vs, ⟨hw, hv, hS⟩ =>
      split at h
      · next hc =>
        cases h
        obtain ⟨a, rfl⟩ := ai_V_long hc.1 hv
        obtain ⟨b, rfl⟩ := ai_V_long hc.2 hw
        exact ai_bl_ok hx hb hf hd (k ls lv (_ :: vs) hl hL ⟨ai_r2_ok hf hv hw, hS⟩)
      · cases h
  · cases h
theorem ai_g6_ok (hx : p.tables.exec = Jvm.exec) (hb : c.code = cc) (hd : decode cc pc = .ok (i, len)) (hl : lv_has ls nL lv) (hL : ai_L E ws lo lv) (hS : ai_S E ws st vs) (h : ai_g6 i len pc lo st = some r)
    (k : ai_KW p l e R s m args below meth c H locs cells slots Q E ws nL r) : W p l e R s m args below meth c H locs cells slots Q (F0 m pc ls vs) := by
  unfold ai_g6 at h
  split at h
  · next f y x st' hf =>
    match vs, hS with
    | [], hS => exact hS.elim
    | [_], ⟨_, hS⟩ => exact hS.elim
    | w :: v :: vs, ⟨hw, hv, hS⟩ =>
      split at h
      · next hc =>
        cases h
        obtain ⟨a, rfl⟩ := ai_V_long hc.1 hv
        obtain ⟨b, rfl⟩ := ai_V_int hc.2 hw
        exact ai_bs_ok hx hb hf hd (k ls lv (_ :: vs) hl hL ⟨ai_r3_ok hf hv hw, hS⟩)
      · cases h
  · cases h
theorem ai_g7_ok (hx : p.tables.exec = Jvm.exec) (hb : c.code = cc) (hd : decode cc pc = .ok (i, len)) (hl : lv_has ls nL lv) (hL : ai_L E ws lo lv) (hS : ai_S E ws st vs) (h : ai_g7 i len pc lo st = some r)
    (k : ai_KW p l e R s m args below meth c H locs cells slots Q E ws nL r) : W p l e R s m args below meth c H locs cells slots Q (F0 m pc ls vs) := by
  unfold ai_g7 at h
  split at h
  · next x st' =>
    match vs, hS with
    | [], hS => exact hS.elim
    | v :: vs, ⟨hv, hS⟩ =>
      split at h
      · next hc =>
        cases h
        obtain ⟨a, rfl⟩ := ai_V_int hc hv
        exact lv_i2l hx hb hd rfl (k ls lv (_ :: vs) hl hL ⟨ai_i2l_ok hv, hS⟩)
      · cases h
  · next x st' =>
    match vs, hS with
    | [], hS => exact hS.elim
    | v :: vs, ⟨hv, hS⟩ =>
      split at h
      · next hc =>
        cases h
        obtain ⟨a, rfl⟩ := ai_V_long hc hv
        exact lv_l2i hx hb hd rfl (k ls lv (_ :: vs) hl hL ⟨ai_l2i_ok hv, hS⟩)
      · cases h
  · next x st' =>
    match vs, hS with
    | [], hS => exact hS.elim
    | v :: vs, ⟨hv, hS⟩ =>
      split at h
      · next hc =>
        cases h
        obtain ⟨a, rfl⟩ := ai_V_int hc hv
        exact lv_i2b hx hb hd rfl (k ls lv (_ :: vs) hl hL ⟨ai_i2b_ok hv, hS⟩)
      · cases h
  · cases h
theorem ai_g8_ok (hx : p.tables.exec = Jvm.exec) (hb : c.code = cc) (hd : decode cc pc = .ok (i, len)) (hl : lv_has ls nL lv) (hL : ai_L E ws lo lv) (hS : ai_S E ws st vs) (h : ai_g8 nL i len pc lo st = some r)
    (k : ai_KW p l e R s m args below meth c H locs cells slots Q E ws nL r) : W p l e R s m args below meth c H locs cells slots Q (F0 m pc ls vs) := by
  unfold ai_g8 at h
  split at h
  · next y x st' =>
    match vs, hS with
    | [], hS => exact hS.elim
    | [_], ⟨_, hS⟩ => exact hS.elim
    | w :: v :: vs, ⟨hw, hv, hS⟩ =>
      split at h
      · next hc =>
        cases h
        obtain ⟨a, rfl⟩ := ai_V_long hc.1 hv
        obtain ⟨b, rfl⟩ := ai_V_long hc.2 hw
        exact W.lcmp hx hb hd (k ls lv (_ :: vs) hl hL ⟨ai_lc_ok hv hw, hS⟩)
      · cases h
  · next x st' =>
    match vs, hS with
    | [], hS => exact hS.elim
    | v :: vs, ⟨hv, hS⟩ =>
      split at h
      · next hc =>
        cases h
        exact lv_dup hx hb hd ((ai_V_wd hv).trans hc) (k ls lv (v :: v :: vs) hl hL ⟨hv, hv, hS⟩)
      · cases h
  · next x y st' =>
    match vs, hS with
    | [], hS => exact hS.elim
    | [_], ⟨_, hS⟩ => exact hS.elim
    | v :: w :: vs, ⟨hv, hw, hS⟩ =>
      split at h
      · next hc =>
        cases h
        exact lv_dup2_11 hx hb hd ((ai_V_wd hv).trans hc.1) ((ai_V_wd hw).trans hc.2) (k ls lv (v :: w :: v :: w :: vs) hl hL ⟨hv, hw, hv, hw, hS⟩)
      · cases h
  · next x st' =>
    match vs, hS with
    | [], hS => exact hS.elim
    | v :: vs, ⟨hv, hS⟩ =>
      split at h
      · next hc =>
        cases h
        exact lv_pop hx hb hd ((ai_V_wd hv).trans hc) (k ls lv vs hl hL hS)
      · cases h
  · next st' j n =>
    split at h
    · next j' b hq =>
      split at h
      · next hn =>
        cases h
        obtain ⟨k2, v, h1, h2⟩ := ai_find j hL hq
        have h2 : v = .int b := h2
        subst h2
        exact lv_iinc hx hb hd hl h1 rfl hn rfl (fun ls' hl' => k ls' _ vs hl' ⟨⟨rfl, rfl⟩, ai_filter j 1 hL⟩ hS)
      · cases h
    · next j' b hq =>
      split at h
      · next a ha =>
        split at h
        · next hn =>
          cases h
          obtain ⟨k2, v, h1, h2⟩ := ai_find j hL hq
          obtain ⟨x, rfl, h3⟩ := ai_ox_ok ha h2
          exact lv_iinc hx hb hd hl h1 rfl hn rfl (fun ls' hl' => k ls' _ vs hl' ⟨⟨rfl, h3⟩, ai_filter j 1 hL⟩ hS)
        · cases h
      · cases h
    · cases h
  · next off st' =>
    split at h
    · next hz =>
      cases h
      exact lv_goto hx hb hd (by omega) (k ls lv vs hl hL hS)
    · cases h
  · cases h
theorem ai_icmp_ok (hx : p.tables.exec = Jvm.exec) (hb : c.code = cc) {q : Jvm.ClassFile.Cond} {off : Int} (hd : decode cc pc = .ok (.if_icmp q off, 3)) {rest : List Value} {x y : Int32} {t : Bool} {tg : Nat} (hr : ai_rel q x y ↔ t = true) (ht : ai_to pc off (some t) = some tg)
    (k : W p l e R s m args below meth c H locs cells slots Q (F0 m tg ls rest)) : W p l e R s m args below meth c H locs cells slots Q (F0 m pc ls (.int y :: .int x :: rest)) := by
  unfold ai_to at ht
  by_cases hz : 0 ≤ (pc : Int) + off
  case neg => rw [if_neg hz] at ht; cases ht
  rw [if_pos hz] at ht
  cases t with
  | true =>
    have hy : ai_rel q x y := hr.mpr rfl
    have ht : some ((pc : Int) + off).toNat = some tg := ht
    cases ht
    cases q with
    | eq => exact lv_icmp_eq (tgt := ((pc : Int) + off).toNat) hx hb hd (by omega) (fun _ => k) (fun z => absurd hy z)
    | ne => exact lv_icmp_ne (tgt := ((pc : Int) + off).toNat) hx hb hd (by omega) (fun _ => k) (fun z => absurd z hy)
    | lt => exact lv_icmp_lt (tgt := ((pc : Int) + off).toNat) hx hb hd (by omega) (fun _ => k) (fun z => absurd hy z)
    | ge => exact lv_icmp_ge (tgt := ((pc : Int) + off).toNat) hx hb hd (by omega) (fun _ => k) (fun z => absurd hy z)
    | gt => exact lv_icmp_gt (tgt := ((pc : Int) + off).toNat) hx hb hd (by omega) (fun _ => k) (fun z => absurd hy z)
    | le => exact lv_icmp_le (tgt := ((pc : Int) + off).toNat) hx hb hd (by omega) (fun _ => k) (fun z => absurd hy z)
  | false =>
    have hy : ¬ ai_rel q x y := fun z => by cases hr.mp z
    have ht : some (pc + 3) = some tg := ht
    cases ht
    cases q with
    | eq => exact lv_icmp_eq (tgt := ((pc : Int) + off).toNat) hx hb hd (by omega) (fun z => absurd z hy) (fun _ => k)
    | ne => exact lv_icmp_ne (tgt := ((pc : Int) + off).toNat) hx hb hd (by omega) (fun z => absurd z hy) (fun _ => k)
    | lt => exact lv_icmp_lt (tgt := ((pc : Int) + off).toNat) hx hb hd (by omega) (fun z => absurd z hy) (fun _ => k)
    | ge => exact lv_icmp_ge (tgt := ((pc : Int) + off).toNat) hx hb hd (by omega) (fun z => absurd z hy) (fun _ => k)
    | gt => exact lv_icmp_gt (tgt := ((pc : Int) + off).toNat) hx hb hd (by omega) (fun z => absurd z hy) (fun _ => k)
    | le => exact lv_icmp_le (tgt := ((pc : Int) + off).toNat) hx hb hd (by omega) (fun z => absurd z hy) (fun _ => k)
theorem ai_ifc_ok (hx : p.tables.exec = Jvm.exec) (hb : c.code = cc) {q : Jvm.ClassFile.Cond} {off : Int} (hd : decode cc pc = .ok (.ifCond q off, 3)) {rest : List Value} {x : Int32} {t : Bool} {tg : Nat} (hr : ai_rel q x 0 ↔ t = true) (ht : ai_to pc off (some t) = some tg)
    (k : W p l e R s m args below meth c H locs cells slots Q (F0 m tg ls rest)) : W p l e R s m args below meth c H locs cells slots Q (F0 m pc ls (.int x :: rest)) := by
  unfold ai_to at ht
  by_cases hz : 0 ≤ (pc : Int) + off
  case neg => rw [if_neg hz] at ht; cases ht
  rw [if_pos hz] at ht
  cases t with
  | true =>
    have hy : ai_rel q x 0 := hr.mpr rfl
    have ht : some ((pc : Int) + off).toNat = some tg := ht
    cases ht
    cases q with
    | eq => exact lv_if_eq (tgt := ((pc : Int) + off).toNat) hx hb hd (by omega) (fun _ => k) (fun z => absurd hy z)
    | ne => exact lv_if_ne (tgt := ((pc : Int) + off).toNat) hx hb hd (by omega) (fun _ => k) (fun z => absurd z hy)
    | lt => exact lv_if_lt (tgt := ((pc : Int) + off).toNat) hx hb hd (by omega) (fun _ => k) (fun z => absurd hy z)
    | ge => exact lv_if_ge (tgt := ((pc : Int) + off).toNat) hx hb hd (by omega) (fun _ => k) (fun z => absurd hy z)
    | gt => exact lv_if_gt (tgt := ((pc : Int) + off).toNat) hx hb hd (by omega) (fun _ => k) (fun z => absurd hy z)
    | le => exact lv_if_le (tgt := ((pc : Int) + off).toNat) hx hb hd (by omega) (fun _ => k) (fun z => absurd hy z)
  | false =>
    have hy : ¬ ai_rel q x 0 := fun z => by cases hr.mp z
    have ht : some (pc + 3) = some tg := ht
    cases ht
    cases q with
    | eq => exact lv_if_eq (tgt := ((pc : Int) + off).toNat) hx hb hd (by omega) (fun z => absurd z hy) (fun _ => k)
    | ne => exact lv_if_ne (tgt := ((pc : Int) + off).toNat) hx hb hd (by omega) (fun z => absurd z hy) (fun _ => k)
    | lt => exact lv_if_lt (tgt := ((pc : Int) + off).toNat) hx hb hd (by omega) (fun z => absurd z hy) (fun _ => k)
    | ge => exact lv_if_ge (tgt := ((pc : Int) + off).toNat) hx hb hd (by omega) (fun z => absurd z hy) (fun _ => k)
    | gt => exact lv_if_gt (tgt := ((pc : Int) + off).toNat) hx hb hd (by omega) (fun z => absurd z hy) (fun _ => k)
    | le => exact lv_if_le (tgt := ((pc : Int) + off).toNat) hx hb hd (by omega) (fun z => absurd z hy) (fun _ => k)
theorem ai_g9_ok (hx : p.tables.exec = Jvm.exec) (hb : c.code = cc) (hd : decode cc pc = .ok (i, len)) (hl : lv_has ls nL lv) (hL : ai_L E ws lo lv) (hS : ai_S E ws st vs) (h : ai_g9 i len pc lo st = some r)
    (k : ai_KW p l e R s m args below meth c H locs cells slots Q E ws nL r) : W p l e R s m args below meth c H locs cells slots Q (F0 m pc ls vs) := by
  unfold ai_g9 at h
  split at h
  · next q off y x st' =>
    match vs, hS with
    | [], hS => exact hS.elim
    | [_], ⟨_, hS⟩ => exact hS.elim
    | w :: v :: vs, ⟨hw, hv, hS⟩ =>
      split at h
      · next t ht =>
        cases h
        cases hbo : ai_bo q x y with
        | none => rw [hbo] at ht; unfold ai_to at ht; split at ht <;> cases ht
        | some u =>
          rw [hbo] at ht
          obtain ⟨a, b, rfl, rfl, hr⟩ := ai_bo_ok hbo hv hw
          exact ai_icmp_ok hx hb hd hr ht (k ls lv vs hl hL hS)
      · cases h
  · next q off x st' =>
    match vs, hS with
    | [], hS => exact hS.elim
    | v :: vs, ⟨hv, hS⟩ =>
      split at h
      · next t ht =>
        cases h
        cases hbo : ai_bo q x (.inl 0) with
        | none => rw [hbo] at ht; unfold ai_to at ht; split at ht <;> cases ht
        | some u =>
          rw [hbo] at ht
          obtain ⟨a, b, rfl, e2, hr⟩ := ai_bo_ok (w := .int 0) hbo hv rfl
          cases e2
          exact ai_ifc_ok hx hb hd hr ht (k ls lv vs hl hL hS)
      · cases h
  · cases h
theorem ai_g10_ok (hx : p.tables.exec = Jvm.exec) (hb : c.code = cc) (hd : decode cc pc = .ok (i, len)) (hl : lv_has ls nL lv) (hL : ai_L E ws lo lv) (hS : ai_S E ws st vs) (h : ai_g10 i len pc lo st = some r)
    (k : ai_KW p l e R s m args below meth c H locs cells slots Q E ws nL r) : W p l e R s m args below meth c H locs cells slots Q (F0 m pc ls vs) := by
  unfold ai_g10 at h
  split at h
  · next d a b offs x st' =>
    match vs, hS with
    | [], hS => exact hS.elim
    | v :: vs, ⟨hv, hS⟩ =>
      split at h
      · next q hq =>
        obtain ⟨y, rfl, h1, h2⟩ := ai_iv_ok hq hv
        split at h
        · next t ht =>
          cases h
          unfold ai_sw at ht
          split at ht
          · next ho =>
            split at ht
            · next hz =>
              cases ht
              exact lv_tableOut (tgt := ((pc : Int) + d).toNat) hx hb hd (by omega) (by omega) (k ls lv vs hl hL hS)
            · cases ht
          · next ho =>
            split at ht
            · next he =>
              split at ht
              · next off hoff =>
                split at ht
                · next hz =>
                  cases ht
                  exact lv_tableIn (tgt := ((pc : Int) + off).toNat) hx hb hd (by omega) (by omega) (by rw [show y.toInt = q.1 by omega]; exact hoff) (by omega) (k ls lv vs hl hL hS)
                · cases ht
              · cases ht
            · cases ht
        · cases h
      · cases h
  · cases h
end AIG
def ai_or {α : Type} (a : Option α) (b : Option α) : Option α := match a with
  | some x => some x
  | none => b
theorem ai_or_ok {α : Type} {a b : Option α} {r : α} (h : ai_or a b = some r) : a = some r ∨ b = some r := by
  unfold ai_or at h
  split at h
  · exact Or.inl h
  · exact Or.inr h
/-- an instruction that moves the frame alone -/
def ai_pu (op : Option Int32) (nL : Nat) (i : Instr) (len pc : Nat) (lo : ALo) (st : List AV) : Option (Nat × ALo × List AV) :=
  ai_or (ai_g2 i len pc lo st) (ai_or (ai_g1 i len pc lo st) (ai_or (ai_g9 i len pc lo st) (ai_or (ai_g4 op i len pc lo st) (ai_or (ai_g3 nL i len pc lo st) (ai_or (ai_g8 nL i len pc lo st) (ai_or (ai_g7 i len pc lo st) (ai_or (ai_g5 i len pc lo st) (ai_or (ai_g6 i len pc lo st) (ai_g10 i len pc lo st)))))))))
theorem ai_pu_ok {p : Program} {l : Launch} {e : Env} {R : Room} {s : State} {m : MethodId} {args : Array Value} {below : List Frame} {meth : Method} {c : Code} {H : Heap} {locs : List Loc} {cells slots : Nat} {Q : State → Prop}
    {cc : ByteArray} {pc : Nat} {ls : Array Slot} {i : Instr} {len nL : Nat} {E : AE} {ws : va_W} {lo : ALo} {st : List AV} {lv : List (Nat × Value)} {vs : List Value} {r : Nat × ALo × List AV}
    {op : Option Int32} (hop : ∀ k, op = some k → e_0 E &&& 15 = k) (hx : p.tables.exec = Jvm.exec) (hb : c.code = cc) (hd : decode cc pc = .ok (i, len)) (hl : lv_has ls nL lv) (hL : ai_L E ws lo lv) (hS : ai_S E ws st vs) (h : ai_pu op nL i len pc lo st = some r)
    (k : ai_KW p l e R s m args below meth c H locs cells slots Q E ws nL r) : W p l e R s m args below meth c H locs cells slots Q (F0 m pc ls vs) := by
  unfold ai_pu at h
  rcases ai_or_ok h with h | h
  · exact ai_g2_ok hx hb hd hl hL hS h k
  rcases ai_or_ok h with h | h
  · exact ai_g1_ok hx hb hd hl hL hS h k
  rcases ai_or_ok h with h | h
  · exact ai_g9_ok hx hb hd hl hL hS h k
  rcases ai_or_ok h with h | h
  · exact ai_g4_ok hop hx hb hd hl hL hS h k
  rcases ai_or_ok h with h | h
  · exact ai_g3_ok hx hb hd hl hL hS h k
  rcases ai_or_ok h with h | h
  · exact ai_g8_ok hx hb hd hl hL hS h k
  rcases ai_or_ok h with h | h
  · exact ai_g7_ok hx hb hd hl hL hS h k
  rcases ai_or_ok h with h | h
  · exact ai_g5_ok hx hb hd hl hL hS h k
  rcases ai_or_ok h with h | h
  · exact ai_g6_ok hx hb hd hl hL hS h k
  · exact ai_g10_ok hx hb hd hl hL hS h k
