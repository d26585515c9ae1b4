/-! ===== machine B: groups of instructions, and what they do to a frame ===== -/
abbrev BN : Type := Nat × BLo × List BV × BS
def b_i2l (x : BV) : Option BV := match x with
  | .inl q => if q.1 = 0 then some (.inl (1, q.2)) else none
  | _ => none
/-- constants and loads -/
def b_cv (a : AV) : Option BV := match a with
  | .inl c => some (.inl (0, li_c c.toInt))
  | .inr (.inr (.inl (some c))) => some (.inl (1, li_c c.toInt))
  | .inr (.inr (.inr (.inl none))) => some (.inr (.inr 0))
  | _ => none
def b_g1 (nL : Nat) (i : Instr) (len : Nat) (lo : BLo) (st : List BV) : Option (BLo × List BV) := match ai_cs i len with
  | some a => match b_cv a with
    | some b => some (lo, b :: st)
    | none => none
  | none => match ai_ld i len with
    | some r => match lo.find? (fun q => q.1 == r.1) with
      | some q => if bv_cat q.2 = r.2 then some (lo, q.2 :: st) else none
      | none => none
    | none => match ai_sr i len, st with
      | some r, x :: st' => if bv_cat x = r.2 ∧ r.1 < nL ∧ (r.2 = 2 → r.1 + 1 < nL) then some ((r.1, x) :: lo.filter (b_fl r.1 r.2), st') else none
      | _, _ => none
/-- stack and conversions that keep the names -/
def b_g2 (i : Instr) (len : Nat) (st : List BV) : Option (List BV) := match i, len, st with
  | .i2l, 1, .inl q :: st' => if q.1 = 0 then some (.inl (1, q.2) :: st') else none
  | .lcmp, 1, .inl y :: .inl x :: st' => if x.1 = 1 ∧ y.1 = 1 then some (.inl (2, li_sub x.2 y.2) :: st') else none
  | .dup, 1, x :: st' => if bv_wd x = 1 then some (x :: x :: st') else none
  | .dup2, 1, x :: y :: st' => if bv_wd x = 1 ∧ bv_wd y = 1 then some (x :: y :: x :: y :: st') else none
  | .pop, 1, x :: st' => if bv_wd x = 1 then some st' else none
  | _, _, _ => none
def b_l2i (s : BS) (a : Li) : BS × Li := if bs_fit s (-2147483648) 2147483647 a then (s, a) else bs_q s 1011 a (li_c 0) (-2147483648) 2147483647
theorem b_l2i_R {nu : List Int} {g : BG} {s : BS} (h : bs_ok nu g s) {a : Li} {x : Int64} (hx : li_e nu a = some x.toInt) : bs_R nu g (b_l2i s a) x.toInt32.toInt := by
  unfold b_l2i
  split
  · next hf =>
    obtain ⟨f1, f2⟩ := bs_fit_ok h hf hx
    refine ⟨nu, nu_le.rf, h, ?_⟩
    rw [Int64.toInt_toInt32, fb_bmod f1 (by omega)]
    exact hx
  · have eF : bq_F 1011 x.toInt 0 = x.toInt32.toInt := by
      rw [bq_F11, fb_asL]
    rw [← eF]
    refine bs_q_R h (by decide) (by decide) hx (li_e_c nu 0) ?_ ?_
    · rw [eF]; exact (fb_rng _).1
    · rw [eF]; have := (fb_rng x.toInt32).2; omega
def b_i2b (s : BS) (a : Li) : BS × Li := if bs_fit s (-128) 127 a then (s, a) else bs_new s (-128) 127
def b_i2c (s : BS) (a : Li) : BS × Li := if bs_fit s 0 65535 a then (s, a) else bs_new s 0 65535
def b_rem (s : BS) (a : Li) (c : Int) : BS × Li := if 0 ≤ (li_v s.1 a).1 then bs_new s 0 (c - 1) else bs_new s (1 - c) (c - 1)
/-- arithmetic -/
def b_g3 (i : Instr) (len : Nat) (st : List BV) (s : BS) : Option (List BV × BS) := match i, st with
  | .l2i, .inl q :: st' => if len = 1 ∧ q.1 = 1 then some (.inl (0, (b_l2i s q.2).2) :: st', (b_l2i s q.2).1) else none
  | .i2b, .inl q :: st' => if len = 1 ∧ q.1 = 0 then some (.inl (0, (b_i2b s q.2).2) :: st', (b_i2b s q.2).1) else none
  | .i2c, .inl q :: st' => if len = 1 ∧ q.1 = 0 then some (.inl (0, (b_i2c s q.2).2) :: st', (b_i2c s q.2).1) else none
  | .irem, .inl y :: .inl x :: st' => match li_k s y.2 with
    | some c => if len = 1 ∧ x.1 = 0 ∧ y.1 = 0 ∧ 0 < c ∧ 0 ≤ (li_v s.1 x.2).1 then some (.inl (0, (b_rem s x.2 c).2) :: st', (b_rem s x.2 c).1) else none
    | none => none
  | i, .inl y :: .inl x :: st' => match ai_bi i len with
    | some _ => if x.1 = 0 ∧ y.1 = 0 then some (.inl (0, (b_bi i s x.2 y.2).2) :: st', (b_bi i s x.2 y.2).1) else none
    | none => match ai_bl i len with
      | some _ => if x.1 = 1 ∧ y.1 = 1 then some (.inl (1, (b_bl i s x.2 y.2).2) :: st', (b_bl i s x.2 y.2).1) else none
      | none => match ai_bs i len with
        | some _ => if x.1 = 1 ∧ y.1 = 0 then some (.inl (1, (b_bs i s x.2 y.2).2) :: st', (b_bs i s x.2 y.2).1) else none
        | none => none
  | _, _ => none
def b_inc (nL : Nat) (i : Instr) (len : Nat) (lo : BLo) (s : BS) : Option (BLo × BS) := match i with
  | .iinc j n => match lo.find? (fun q => q.1 == j) with
    | some q => match q.2 with
      | .inl r => if len = 3 ∧ r.1 = 0 ∧ j < nL ∧ -1000 ≤ n ∧ n ≤ 1000 then some ((j, .inl (0, (bs_i s (li_sh n r.2)).2)) :: lo.filter (b_fl j 1), (bs_i s (li_sh n r.2)).1) else none
      | _ => none
    | none => none
  | _ => none
def b_tb (pc : Nat) (lo : BLo) (st : List BV) (s : BS) (f : Li) (a : Int) (offs : List Int) : Nat → List BN
  | 0 => []
  | n + 1 => match offs with
    | [] => []
    | o :: offs => (b_cnd false .eq s (li_sh (-a) f)).map (fun t => (((pc : Int) + o).toNat, lo, st, t)) ++ b_tb pc lo st s f (a + 1) offs n
/-- branches -/
def b_g4 (spl : Bool) (i : Instr) (len pc : Nat) (lo : BLo) (st : List BV) (s : BS) : Option (List BN) := match i, st with
  | .goto off, st => if len = 3 ∧ 0 ≤ (pc : Int) + off then some [(((pc : Int) + off).toNat, lo, st, s)] else none
  | .if_icmp k off, .inl y :: .inl x :: st' => if len = 3 ∧ x.1 = 0 ∧ y.1 = 0 ∧ 0 ≤ (pc : Int) + off then some ((b_cnd spl k s (li_sub x.2 y.2)).map (fun t => (((pc : Int) + off).toNat, lo, st', t)) ++ (b_cnd spl (b_neg k) s (li_sub x.2 y.2)).map (fun t => (pc + 3, lo, st', t))) else none
  | .ifCond k off, .inl x :: st' => if len = 3 ∧ x.1 ≠ 1 ∧ 0 ≤ (pc : Int) + off then some ((b_cnd spl k s x.2).map (fun t => (((pc : Int) + off).toNat, lo, st', t)) ++ (b_cnd spl (b_neg k) s x.2).map (fun t => (pc + 3, lo, st', t))) else none
  | .ifnonnull off, x :: st' => match x with
    | .inr (.inl _) => if len = 3 ∧ 0 ≤ (pc : Int) + off then some [(((pc : Int) + off).toNat, lo, st', s)] else none
    | .inr (.inr 0) => if len = 3 then some [(pc + 3, lo, st', s)] else none
    | _ => none
  | .tableswitch d a b offs, .inl x :: st' => if x.1 = 0 ∧ 0 ≤ (pc : Int) + d ∧ (offs.size : Int) = b - a + 1 ∧ offs.toList.all (fun o => decide (0 ≤ (pc : Int) + o)) = true then
      some (b_tb pc lo st' s x.2 a offs.toList offs.size ++ ((b_cnd false .lt s (li_sh (-a) x.2)).map (fun t => (((pc : Int) + d).toNat, lo, st', t)) ++ (b_cnd false .gt s (li_sh (-b) x.2)).map (fun t => (((pc : Int) + d).toNat, lo, st', t)))) else none
  | _, _ => none
def bm_pu (spl : Bool) (nL : Nat) (i : Instr) (len pc : Nat) (lo : BLo) (st : List BV) (s : BS) : Option (List BN) := match b_g1 nL i len lo st with
  | some r => some [(pc + len, r.1, r.2, s)]
  | none => match b_g2 i len st with
    | some r => some [(pc + len, lo, r, s)]
    | none => match b_g3 i len st s with
      | some r => some [(pc + len, lo, r.1, r.2)]
      | none => match b_inc nL i len lo s with
        | some r => some [(pc + len, r.1, st, r.2)]
        | none => b_g4 spl i len pc lo st s
def b_KW (p : Program) (l : Launch) (e : Env) (R : Room) (s : State) (m : MethodId) (args : Array Value) (below : List Frame) (meth : Method) (c : Code) (H : Heap) (locs : List Loc) (cells slots : Nat) (Q : State → Prop) (B : BE) (nL : Nat) (nu : List Int) (g : BG) (r : BN) : Prop :=
  ∀ (nv : List Int) (ls' : Array Slot) (lv' : List (Nat × Value)) (vs' : List Value), nu_le nu nv → bs_ok nv g r.2.2.2 → lv_has ls' nL lv' → b_L B nv r.2.1 lv' → b_S B nv r.2.2.1 vs' → W p l e R s m args below meth c H locs cells slots Q (F0 m r.1 ls' vs')
theorem b_cv_ok {B : BE} {nu : List Int} {E : AE} {ws : va_W} {a : AV} {b : BV} (h : b_cv a = some b) {v : Value} (hv : ai_V E ws a v) : bv_V B nu b v := by
  unfold b_cv at h
  split at h
  · next c =>
    cases h
    have hv : v = .int c := hv
    exact ⟨c, hv, li_e_c nu _⟩
  · next c =>
    cases h
    have hv : v = .long c := hv
    exact ⟨c, hv, li_e_c nu _⟩
  · cases h
    exact hv
  · cases h
theorem bv_N0 {nu : List Int} {q : Nat × Li} {v : Value} (h : q.1 = 0) (k : bv_N nu q v) : ∃ x : Int32, v = .int x ∧ li_e nu q.2 = some x.toInt := by
  unfold bv_N at k
  rw [if_pos h] at k
  exact k
theorem bv_N1 {nu : List Int} {q : Nat × Li} {v : Value} (h : q.1 = 1) (k : bv_N nu q v) : ∃ x : Int64, v = .long x ∧ li_e nu q.2 = some x.toInt := by
  unfold bv_N at k
  rw [if_neg (by omega), if_pos h] at k
  exact k
theorem bv_Nz {nu : List Int} {q : Nat × Li} {v : Value} (h : q.1 ≠ 1) (k : bv_N nu q v) : ∃ (x : Int32) (z : Int), v = .int x ∧ li_e nu q.2 = some z ∧ (x.toInt < 0 ↔ z < 0) ∧ (0 < x.toInt ↔ 0 < z) := by
  unfold bv_N at k
  split at k
  · obtain ⟨x, h1, h2⟩ := k
    exact ⟨x, x.toInt, h1, h2, Iff.rfl, Iff.rfl⟩
  · exact k
theorem b_rel_cmp {k : Jvm.ClassFile.Cond} {x y : Int32} : ai_rel k x y ↔ b_rel k (x.toInt - y.toInt) := by
  cases k <;> simp only [ai_rel, b_rel, Int32.lt_iff_toInt_lt, Int32.le_iff_toInt_le, ← Int32.toInt_inj, ne_eq] <;> omega
theorem b_rel_0 {k : Jvm.ClassFile.Cond} {x : Int32} {z : Int} (h1 : x.toInt < 0 ↔ z < 0) (h2 : 0 < x.toInt ↔ 0 < z) : ai_rel k x 0 ↔ b_rel k z := by
  have e : (0 : Int32).toInt = 0 := rfl
  cases k <;> simp only [ai_rel, b_rel, Int32.lt_iff_toInt_lt, Int32.le_iff_toInt_le, ← Int32.toInt_inj, ne_eq, e] <;> omega
theorem b_tb_ok {pc : Nat} {lo : BLo} {st : List BV} {s : BS} {f : Li} {nu : List Int} {g : BG} (h : bs_ok nu g s) {z : Int} (hz : li_e nu f = some z) : ∀ (n : Nat) (a : Int) (offs : List Int) (o : Int), a ≤ z → z < a + n → offs[(z - a).toNat]? = some o → ∃ t, bs_ok nu g t ∧ ((((pc : Int) + o).toNat, lo, st, t) : BN) ∈ b_tb pc lo st s f a offs n
  | 0, a, offs, o, h1, h2, h3 => by omega
  | n + 1, a, [], o, h1, h2, h3 => by cases h3
  | n + 1, a, x :: offs, o, h1, h2, h3 => by
    unfold b_tb
    by_cases e : z = a
    · subst e
      rw [show (z - z).toNat = 0 by omega] at h3
      cases h3
      obtain ⟨t, t1, t2⟩ := b_cnd_ok (spl := false) (k := .eq) h (li_e_sh (-z) hz) (by show z + -z = 0; omega)
      exact ⟨t, t2, List.mem_append_left _ (List.mem_map.mpr ⟨t, t1, rfl⟩)⟩
    · obtain ⟨t, t1, t2⟩ := b_tb_ok h hz n (a + 1) offs o (by omega) (by omega) (by
        rw [show (z - a).toNat = (z - (a + 1)).toNat + 1 by omega] at h3
        exact h3)
      exact ⟨t, t1, List.mem_append_right _ t2⟩
section BPU
variable {p : Program} {l : Launch} {e : Env} {R : Room} {s : State} {m : MethodId} {args : Array Value} {below : List Frame} {meth : Method} {c : Code} {H : Heap} {locs : List Loc} {cells slots : Nat} {Q : State → Prop}
variable {cc : ByteArray} {pc : Nat} {ls : Array Slot} {i : Instr} {len nL : Nat} {B : BE} {nu : List Int} {g : BG} {lo : BLo} {lv : List (Nat × Value)} {st : List BV} {vs : List Value} {t : BS} {spl : Bool}
theorem b_g1_ok (hx : p.tables.exec = Jvm.exec) (hb : c.code = cc) (hd : decode cc pc = .ok (i, len)) (hl : lv_has ls nL lv) (hL : b_L B nu lo lv) (hS : b_S B nu st vs) {r : BLo × List BV} (h : b_g1 nL i len lo st = some r)
    (k : ∀ (ls' : Array Slot) (lv' : List (Nat × Value)) (vs' : List Value), lv_has ls' nL lv' → b_L B nu r.1 lv' → b_S B nu r.2 vs' → W p l e R s m args below meth c H locs cells slots Q (F0 m (pc + len) ls' vs')) : W p l e R s m args below meth c H locs cells slots Q (F0 m pc ls vs) := by
  unfold b_g1 at h
  split at h
  · next a ha =>
    split at h
    · next b hb2 =>
      cases h
      exact ai_cs_ok hx hb ha hd (0, 0, 0, 0, fun _ => 0) [] (fun v hv => k ls lv (v :: vs) hl hL ⟨b_cv_ok hb2 hv, hS⟩)
    · cases h
  · split at h
    · next r1 hr =>
      obtain ⟨j, t⟩ := r1
      split at h
      · next q hq =>
        split at h
        · next hc =>
          cases h
          obtain ⟨k2, v, h1, h2⟩ := b_find j hL hq
          obtain ⟨a, a1, a2⟩ := bv_av (0, 0, 0, 0, fun _ => 0) [] h2
          exact ai_ld_ok hx hb hr hd (lv_at hl k2 h1) (a1.trans hc) a2 (k ls lv (v :: vs) hl hL ⟨h2, hS⟩)
        · cases h
      · cases h
    · split at h
      · next r1 x st' hr =>
        obtain ⟨j, t⟩ := r1
        match vs, hS with
        | [], hS => exact hS.elim
        | v :: vs, ⟨hv, hS⟩ =>
          split at h
          · next hc =>
            cases h
            obtain ⟨a, a1, a2⟩ := bv_av (0, 0, 0, 0, fun _ => 0) [] hv
            exact ai_sr_ok hx hb hr hd hl hc.2.1 hc.2.2 (a1.trans hc.1) a2 (fun ls' hl' => k ls' _ vs hl' ⟨⟨rfl, hv⟩, b_filter j t hL⟩ hS)
          · cases h
      · cases h
theorem b_g2_ok (hx : p.tables.exec = Jvm.exec) (hb : c.code = cc) (hd : decode cc pc = .ok (i, len)) (hS : b_S B nu st vs) {r : List BV} (h : b_g2 i len st = some r)
    (k : ∀ (vs' : List Value), b_S B nu r vs' → W p l e R s m args below meth c H locs cells slots Q (F0 m (pc + len) ls vs')) : W p l e R s m args below meth c H locs cells slots Q (F0 m pc ls vs) := by
  unfold b_g2 at h
  split at h
  · next q st' =>
    match vs, hS with
    | [], hS => exact hS.elim
    | v :: vs, ⟨hv, hS⟩ =>
      split at h
      · next hc =>
        cases h
        obtain ⟨x, rfl, h2⟩ := bv_N0 hc hv
        exact lv_i2l hx hb hd rfl (k (_ :: vs) ⟨bv_l.mpr ⟨_, rfl, by rw [Int32.toInt_toInt64]; exact h2⟩, hS⟩)
      · cases h
  · next y x st' =>
    match vs, hS with
    | [], hS => exact hS.elim
    | [_], ⟨_, hS⟩ => exact hS.elim
    | w :: v :: vs, ⟨hw, hv, hS⟩ =>
      split at h
      · next hc =>
        cases h
        obtain ⟨a, rfl, h2⟩ := bv_N1 hc.1 hv
        obtain ⟨b, rfl, h3⟩ := bv_N1 hc.2 hw
        refine W.lcmp hx hb hd (k (_ :: vs) ⟨?_, hS⟩)
        refine ⟨lg_cmp a b, a.toInt - b.toInt, rfl, li_e_sub h2 h3, ?_⟩
        unfold lg_cmp
        have e1 : (1 : Int32).toInt = 1 := rfl
        have e2 : (0 : Int32).toInt = 0 := rfl
        have e3 : (-1 : Int32).toInt = -1 := rfl
        split
        · next q =>
          have q : b.toInt < a.toInt := Int64.lt_iff_toInt_lt.mp q
          rw [e1]
          omega
        · next q =>
          have q : ¬ b.toInt < a.toInt := fun z => q (Int64.lt_iff_toInt_lt.mpr z)
          split
          · next q2 =>
            rw [e2, q2]
            omega
          · next q2 =>
            have q2 : ¬ a.toInt = b.toInt := fun z => q2 (Int64.toInt_inj.mp z)
            rw [e3]
            omega
      · cases h
  · next x st' =>
    match vs, hS with
    | [], hS => exact hS.elim
    | v :: vs, ⟨hv, hS⟩ =>
      split at h
      · next hc =>
        cases h
        exact lv_dup hx hb hd ((bv_V_wd hv).trans hc) (k (v :: v :: vs) ⟨hv, hv, hS⟩)
      · cases h
  · next x y st' =>
    match vs, hS with
    | [], hS => exact hS.elim
    | [_], ⟨_, hS⟩ => exact hS.elim
    | v :: w :: vs, ⟨hv, hw, hS⟩ =>
      split at h
      · next hc =>
        cases h
        exact lv_dup2_11 hx hb hd ((bv_V_wd hv).trans hc.1) ((bv_V_wd hw).trans hc.2) (k (v :: w :: v :: w :: vs) ⟨hv, hw, hv, hw, hS⟩)
      · cases h
  · next x st' =>
    match vs, hS with
    | [], hS => exact hS.elim
    | v :: vs, ⟨hv, hS⟩ =>
      split at h
      · next hc =>
        cases h
        exact lv_pop hx hb hd ((bv_V_wd hv).trans hc) (k vs hS)
      · cases h
  · cases h
theorem b_chr (x : Int32) : 0 ≤ ((x.toUInt32 % 65536).toInt32).toInt ∧ ((x.toUInt32 % 65536).toInt32).toInt ≤ 65535 ∧ (0 ≤ x.toInt → x.toInt ≤ 65535 → ((x.toUInt32 % 65536).toInt32).toInt = x.toInt) := by
  have hm := Nat.mod_lt x.toBitVec.toNat (show 0 < 65536 by decide)
  rw [pk_char, nI_toInt (by omega)]
  refine ⟨by omega, by omega, fun h1 h2 => ?_⟩
  have e : x.toInt = x.toBitVec.toInt := rfl
  rw [e] at h1 h2 ⊢
  have h5 := x.toBitVec.isLt
  rw [BitVec.toInt_eq_toNat_cond] at h1 h2 ⊢
  split at h1
  · next c =>
    rw [if_pos c] at h2 ⊢
    omega
  · omega
theorem b_remI {x y : Int32} {c : Int} (hy : y.toInt = c) (hc : 0 < c) (hx : 0 ≤ x.toInt) : 0 ≤ (x - x / y * y).toInt ∧ (x - x / y * y).toInt ≤ c - 1 := by
  obtain ⟨a, ha, rfl⟩ := nI_of (x := x) (fun z => by have := Int32.lt_iff_toInt_lt.mp z; have e2 : (0 : Int32).toInt = 0 := rfl; omega)
  obtain ⟨d, hd, rfl⟩ := nI_of (x := y) (fun z => by have := Int32.lt_iff_toInt_lt.mp z; have e2 : (0 : Int32).toInt = 0 := rfl; omega)
  rw [nI_toInt hd] at hy
  have hd0 : 0 < d := by omega
  rw [pk_rem ha hd0 hd, nI_toInt (by have := Nat.mod_lt a hd0; omega)]
  have := Nat.mod_lt a hd0
  omega
set_option maxHeartbeats 1000000 in
theorem b_g3_ok (hx : p.tables.exec = Jvm.exec) (hb : c.code = cc) (hd : decode cc pc = .ok (i, len)) (ht : bs_ok nu g t) (hS : b_S B nu st vs) {r : List BV × BS} (h : b_g3 i len st t = some r)
    (k : ∀ (nv : List Int) (vs' : List Value), nu_le nu nv → bs_ok nv g r.2 → b_S B nv r.1 vs' → W p l e R s m args below meth c H locs cells slots Q (F0 m (pc + len) ls vs')) : W p l e R s m args below meth c H locs cells slots Q (F0 m pc ls vs) := by
  unfold b_g3 at h
  split at h
  · next q st' =>
    match vs, hS with
    | [], hS => exact hS.elim
    | v :: vs, ⟨hv, hS⟩ =>
      split at h
      · next hc =>
        cases h
        obtain ⟨rfl, hc⟩ := hc
        obtain ⟨x, rfl, h2⟩ := bv_N1 hc hv
        obtain ⟨nv, n1, n2, n3⟩ := b_l2i_R ht h2
        exact lv_l2i hx hb hd rfl (k nv (_ :: vs) n1 n2 ⟨bv_i.mpr ⟨_, rfl, n3⟩, hS.mono n1⟩)
      · cases h
  · next q st' =>
    match vs, hS with
    | [], hS => exact hS.elim
    | v :: vs, ⟨hv, hS⟩ =>
      split at h
      · next hc =>
        cases h
        obtain ⟨rfl, hc⟩ := hc
        obtain ⟨x, rfl, h2⟩ := bv_N0 hc hv
        have hR : bs_R nu g (b_i2b t q.2) x.toInt8.toInt32.toInt := by
          unfold b_i2b
          split
          · next c2 =>
            have := bs_fit_ok ht c2 h2
            rw [fb_byte this.1 (by omega)]
            exact ⟨nu, nu_le.rf, ht, h2⟩
          · exact bs_new_R ht (fb_byte_rng x).1 (by have := (fb_byte_rng x).2; omega)
        obtain ⟨nv, n1, n2, n3⟩ := hR
        exact lv_i2b hx hb hd rfl (k nv (_ :: vs) n1 n2 ⟨bv_i.mpr ⟨_, rfl, n3⟩, hS.mono n1⟩)
      · cases h
  · next q st' =>
    match vs, hS with
    | [], hS => exact hS.elim
    | v :: vs, ⟨hv, hS⟩ =>
      split at h
      · next hc =>
        cases h
        obtain ⟨rfl, hc⟩ := hc
        obtain ⟨x, rfl, h2⟩ := bv_N0 hc hv
        obtain ⟨c1, c3, c4⟩ := b_chr x
        have hR : bs_R nu g (b_i2c t q.2) ((x.toUInt32 % 65536).toInt32).toInt := by
          unfold b_i2c
          split
          · next c2 =>
            have := bs_fit_ok ht c2 h2
            rw [c4 this.1 this.2]
            exact ⟨nu, nu_le.rf, ht, h2⟩
          · exact bs_new_R ht c1 c3
        obtain ⟨nv, n1, n2, n3⟩ := hR
        exact lv_i2c hx hb hd rfl (k nv (_ :: vs) n1 n2 ⟨bv_i.mpr ⟨_, rfl, n3⟩, hS.mono n1⟩)
      · cases h
  · next y x st' =>
    match vs, hS with
    | [], hS => exact hS.elim
    | [_], ⟨_, hS⟩ => exact hS.elim
    | w :: v :: vs, ⟨hw, hv, hS⟩ =>
      split at h
      · next cst hk =>
        split at h
        · next hc =>
          cases h
          obtain ⟨rfl, hc1, hc2, hc3, hc4⟩ := hc
          obtain ⟨a, rfl, h2⟩ := bv_N0 hc1 hv
          obtain ⟨b, rfl, h3⟩ := bv_N0 hc2 hw
          have e := li_k_ok ht hk h3
          have v1 := li_v_ok ht.1 h2
          have e2 : (0 : Int32).toInt = 0 := rfl
          have hr := b_remI e hc3 (show 0 ≤ a.toInt by omega)
          have hR : bs_R nu g (b_rem t x.2 cst) (a - a / b * b).toInt := by
            unfold b_rem
            rw [if_pos hc4]
            exact bs_new_R ht hr.1 hr.2
          obtain ⟨nv, n1, n2, n3⟩ := hR
          exact lv_irem hx hb hd (fun z => by rw [z] at e; omega) (k nv (_ :: vs) n1 n2 ⟨bv_i.mpr ⟨_, rfl, n3⟩, hS.mono n1⟩)
        · cases h
      · cases h
  · next y x st' _ =>
    match vs, hS with
    | [], hS => exact hS.elim
    | [_], ⟨_, hS⟩ => exact hS.elim
    | w :: v :: vs, ⟨hw, hv, hS⟩ =>
      split at h
      · next f hf =>
        split at h
        · next hc =>
          cases h
          obtain ⟨a, rfl, h2⟩ := bv_N0 hc.1 hv
          obtain ⟨b, rfl, h3⟩ := bv_N0 hc.2 hw
          obtain ⟨nv, n1, n2, n3⟩ := b_bi_ok ht hf h2 h3
          exact ai_bi_ok hx hb hf hd (k nv (_ :: vs) n1 n2 ⟨bv_i.mpr ⟨_, rfl, n3⟩, hS.mono n1⟩)
        · cases h
      · split at h
        · next f hf =>
          split at h
          · next hc =>
            cases h
            obtain ⟨a, rfl, h2⟩ := bv_N1 hc.1 hv
            obtain ⟨b, rfl, h3⟩ := bv_N1 hc.2 hw
            obtain ⟨nv, n1, n2, n3⟩ := b_bl_ok ht hf h2 h3
            exact ai_bl_ok hx hb hf hd (k nv (_ :: vs) n1 n2 ⟨bv_l.mpr ⟨_, rfl, n3⟩, hS.mono n1⟩)
          · cases h
        · split at h
          · next f hf =>
            split at h
            · next hc =>
              cases h
              obtain ⟨a, rfl, h2⟩ := bv_N1 hc.1 hv
              obtain ⟨b, rfl, h3⟩ := bv_N0 hc.2 hw
              obtain ⟨nv, n1, n2, n3⟩ := b_bs_ok ht hf h2 h3
              exact ai_bs_ok hx hb hf hd (k nv (_ :: vs) n1 n2 ⟨bv_l.mpr ⟨_, rfl, n3⟩, hS.mono n1⟩)
            · cases h
          · cases h
  · cases h
theorem b_inc_ok (hx : p.tables.exec = Jvm.exec) (hb : c.code = cc) (hd : decode cc pc = .ok (i, len)) (hl : lv_has ls nL lv) (hL : b_L B nu lo lv) (ht : bs_ok nu g t) {r : BLo × BS} (h : b_inc nL i len lo t = some r)
    (k : ∀ (nv : List Int) (ls' : Array Slot) (lv' : List (Nat × Value)), nu_le nu nv → bs_ok nv g r.2 → lv_has ls' nL lv' → b_L B nv r.1 lv' → W p l e R s m args below meth c H locs cells slots Q (F0 m (pc + len) ls' vs)) : W p l e R s m args below meth c H locs cells slots Q (F0 m pc ls vs) := by
  unfold b_inc at h
  split at h
  · next j n =>
    split at h
    · next q hq =>
      split at h
      · next r2 hr =>
        split at h
        · next hc =>
          cases h
          obtain ⟨rfl, hc1, hc2, hc3, hc4⟩ := hc
          obtain ⟨k2, v, h1, h2⟩ := b_find j hL hq
          rw [hr] at h2
          obtain ⟨x, rfl, h3⟩ := bv_N0 hc1 h2
          have en : (Int32.ofInt n).toInt = n := fb_ofI (by omega) (by omega)
          obtain ⟨nv, n1, n2, n3⟩ := bs_i_R ht (li_e_sh n h3) (x := x + Int32.ofInt n) (fun g1 g2 => by rw [fb_addI (by rw [en]; exact g1) (by rw [en]; exact g2), en])
          exact lv_iinc hx hb hd hl h1 rfl hc2 rfl (fun ls' hl' => k nv ls' _ n1 n2 hl' ⟨⟨rfl, bv_i.mpr ⟨_, rfl, n3⟩⟩, b_filter j 1 (hL.mono n1)⟩)
        · cases h
      · cases h
    · cases h
  · cases h
set_option maxHeartbeats 1000000 in
theorem b_g4_ok (hx : p.tables.exec = Jvm.exec) (hb : c.code = cc) (hd : decode cc pc = .ok (i, len)) (hl : lv_has ls nL lv) (hL : b_L B nu lo lv) (ht : bs_ok nu g t) (hS : b_S B nu st vs) {rs : List BN} (h : b_g4 spl i len pc lo st t = some rs)
    (k : ∀ r ∈ rs, b_KW p l e R s m args below meth c H locs cells slots Q B nL nu g r) : W p l e R s m args below meth c H locs cells slots Q (F0 m pc ls vs) := by
  unfold b_g4 at h
  split at h
  · next off st' =>
    split at h
    · next hc =>
      cases h
      obtain ⟨rfl, hz⟩ := hc
      exact lv_goto hx hb hd (by omega) (k _ (List.mem_singleton.mpr rfl) nu ls lv vs nu_le.rf ht hl hL hS)
    · cases h
  · next q off y x st' =>
    match vs, hS with
    | [], hS => exact hS.elim
    | [_], ⟨_, hS⟩ => exact hS.elim
    | w :: v :: vs, ⟨hw, hv, hS⟩ =>
      split at h
      · next hc =>
        cases h
        obtain ⟨rfl, hc1, hc2, hz⟩ := hc
        obtain ⟨a, rfl, h2⟩ := bv_N0 hc1 hv
        obtain ⟨b, rfl, h3⟩ := bv_N0 hc2 hw
        by_cases hr : b_rel q (a.toInt - b.toInt)
        · obtain ⟨u, u1, u2⟩ := b_cnd_ok (spl := spl) ht (li_e_sub h2 h3) hr
          refine ai_icmp_ok hx hb hd (t := true) ⟨fun _ => rfl, fun _ => b_rel_cmp.mpr hr⟩ (by unfold ai_to; rw [if_pos hz]) ?_
          exact k _ (List.mem_append_left _ (List.mem_map.mpr ⟨u, u1, rfl⟩)) nu ls lv vs nu_le.rf u2 hl hL hS
        · obtain ⟨u, u1, u2⟩ := b_cnd_ok (spl := spl) ht (li_e_sub h2 h3) (b_rel_neg hr)
          refine ai_icmp_ok hx hb hd (t := false) ⟨fun z => absurd (b_rel_cmp.mp z) hr, fun z => by cases z⟩ (by unfold ai_to; rw [if_pos hz]) ?_
          exact k _ (List.mem_append_right _ (List.mem_map.mpr ⟨u, u1, rfl⟩)) nu ls lv vs nu_le.rf u2 hl hL hS
      · cases h
  · next q off x st' =>
    match vs, hS with
    | [], hS => exact hS.elim
    | v :: vs, ⟨hv, hS⟩ =>
      split at h
      · next hc =>
        cases h
        obtain ⟨rfl, hc1, hz⟩ := hc
        obtain ⟨a, z, rfl, h2, h3, h4⟩ := bv_Nz hc1 hv
        by_cases hr : b_rel q z
        · obtain ⟨u, u1, u2⟩ := b_cnd_ok (spl := spl) ht h2 hr
          refine ai_ifc_ok hx hb hd (t := true) ⟨fun _ => rfl, fun _ => (b_rel_0 h3 h4).mpr hr⟩ (by unfold ai_to; rw [if_pos hz]) ?_
          exact k _ (List.mem_append_left _ (List.mem_map.mpr ⟨u, u1, rfl⟩)) nu ls lv vs nu_le.rf u2 hl hL hS
        · obtain ⟨u, u1, u2⟩ := b_cnd_ok (spl := spl) ht h2 (b_rel_neg hr)
          refine ai_ifc_ok hx hb hd (t := false) ⟨fun z => absurd ((b_rel_0 h3 h4).mp z) hr, fun z => by cases z⟩ (by unfold ai_to; rw [if_pos hz]) ?_
          exact k _ (List.mem_append_right _ (List.mem_map.mpr ⟨u, u1, rfl⟩)) nu ls lv vs nu_le.rf u2 hl hL hS
      · cases h
  · next off x st' =>
    match vs, hS with
    | [], hS => exact hS.elim
    | v :: vs, ⟨hv, hS2⟩ =>
      split at h
      · split at h
        · next hc =>
          cases h
          obtain ⟨rfl, hz⟩ := hc
          obtain ⟨P, rfl, -⟩ := hv
          exact lv_ifnonnull hx hb hd (by omega) (k _ (List.mem_singleton.mpr rfl) nu ls lv vs nu_le.rf ht hl hL hS2)
        · cases h
      · split at h
        · next hc =>
          cases h
          subst hc
          have hv : v = .null := hv
          subst hv
          exact lv_ifnonnullN hx hb hd (k _ (List.mem_singleton.mpr rfl) nu ls lv vs nu_le.rf ht hl hL hS2)
        · cases h
      · cases h
  · next d a b offs x st' =>
    match vs, hS with
    | [], hS => exact hS.elim
    | v :: vs, ⟨hv, hS⟩ =>
      split at h
      · next hc =>
        cases h
        obtain ⟨hc1, hz, hsz, hall⟩ := hc
        obtain ⟨y, rfl, h2⟩ := bv_N0 hc1 hv
        by_cases hlt : y.toInt < a
        · obtain ⟨u, u1, u2⟩ := b_cnd_ok (spl := false) (k := .lt) ht (li_e_sh (-a) h2) (by show y.toInt + -a < 0; omega)
          exact lv_tableOut (tgt := ((pc : Int) + d).toNat) hx hb hd (Or.inl hlt) (by omega) (k _ (List.mem_append_right _ (List.mem_append_left _ (List.mem_map.mpr ⟨u, u1, rfl⟩))) nu ls lv vs nu_le.rf u2 hl hL hS)
        · by_cases hgt : b < y.toInt
          · obtain ⟨u, u1, u2⟩ := b_cnd_ok (spl := false) (k := .gt) ht (li_e_sh (-b) h2) (by show 0 < y.toInt + -b; omega)
            exact lv_tableOut (tgt := ((pc : Int) + d).toNat) hx hb hd (Or.inr hgt) (by omega) (k _ (List.mem_append_right _ (List.mem_append_right _ (List.mem_map.mpr ⟨u, u1, rfl⟩))) nu ls lv vs nu_le.rf u2 hl hL hS)
          · have hlen : (y.toInt - a).toNat < offs.toList.length := by rw [Array.length_toList]; omega
            have ho : offs.toList[(y.toInt - a).toNat]? = some (offs.toList[(y.toInt - a).toNat]'hlen) := List.getElem?_eq_getElem hlen
            have hpos := of_decide_eq_true (List.all_eq_true.mp hall _ (List.getElem_mem hlen))
            obtain ⟨u, u1, u2⟩ := b_tb_ok (pc := pc) (lo := lo) (st := st') ht h2 offs.size a offs.toList _ (by omega) (by omega) ho
            refine lv_tableIn (tgt := ((pc : Int) + offs.toList[(y.toInt - a).toNat]'hlen).toNat) hx hb hd (by omega) (by omega) (by rw [← Array.getElem?_toList]; exact ho) (by omega) (k _ (List.mem_append_left _ u2) nu ls lv vs nu_le.rf u1 hl hL hS)
      · cases h
  · cases h
theorem bm_pu_ok (hx : p.tables.exec = Jvm.exec) (hb : c.code = cc) (hd : decode cc pc = .ok (i, len)) (hl : lv_has ls nL lv) (hL : b_L B nu lo lv) (ht : bs_ok nu g t) (hS : b_S B nu st vs) {rs : List BN} (h : bm_pu spl nL i len pc lo st t = some rs)
    (k : ∀ r ∈ rs, b_KW p l e R s m args below meth c H locs cells slots Q B nL nu g r) : W p l e R s m args below meth c H locs cells slots Q (F0 m pc ls vs) := by
  unfold bm_pu at h
  split at h
  · next r hr =>
    cases h
    exact b_g1_ok hx hb hd hl hL hS hr (fun ls' lv' vs' a1 a2 a3 => k _ (List.mem_singleton.mpr rfl) nu ls' lv' vs' nu_le.rf ht a1 a2 a3)
  · split at h
    · next r hr =>
      cases h
      exact b_g2_ok hx hb hd hS hr (fun vs' a3 => k _ (List.mem_singleton.mpr rfl) nu ls lv vs' nu_le.rf ht hl hL a3)
    · split at h
      · next r hr =>
        cases h
        exact b_g3_ok hx hb hd ht hS hr (fun nv vs' a1 a2 a3 => k _ (List.mem_singleton.mpr rfl) nv ls lv vs' a1 a2 hl (hL.mono a1) a3)
      · split at h
        · next r hr =>
          cases h
          exact b_inc_ok hx hb hd hl hL ht hr (fun nv ls' lv' a1 a2 a3 a4 => k _ (List.mem_singleton.mpr rfl) nv ls' lv' vs a1 a2 a3 a4 (hS.mono a1))
        · exact b_g4_ok hx hb hd hl hL ht hS h k
end BPU
