/-! ===== groups of instructions that move a frame alone, each with its law ===== -/
def ai_g1 (i : Instr) (len pc : Nat) (lo : ALo) (st : List AV) : Option (Nat × ALo × List AV) := match ai_cs i len with
  | some a => some (pc + len, lo, a :: st)
  | none => none
def ai_g2 (i : Instr) (len pc : Nat) (lo : ALo) (st : List AV) : Option (Nat × ALo × List AV) := match ai_ld i len with
  | none => none
  | some jt => match lo.find? (fun q => q.1 == jt.1) with
    | none => none
    | some q => if ai_cat q.2 = jt.2 then some (pc + len, lo, q.2 :: st) else none
def ai_g3 (nL : Nat) (i : Instr) (len pc : Nat) (lo : ALo) (st : List AV) : Option (Nat × ALo × List AV) := match ai_sr i len, st with
  | some jt, a :: st' => if ai_cat a = jt.2 ∧ jt.1 < nL ∧ (jt.2 = 2 → jt.1 + 1 < nL) then some (pc + len, (jt.1, a) :: lo.filter (ai_fl jt.1 jt.2), st') else none
  | _, _ => none
def ai_ri (f : Int32 → Int32 → Int32) (x y : AV) : AV := match x, y with
  | .inl a, .inl b => .inl (f a b)
  | _, _ => ai_top
/-- an unknown by its name, moved by a known number -/
def ai_off (n : Nat) (c : Int) : Option Nat := if 1000 ≤ n ∧ 0 ≤ (((n - 1000) % 1024 : Nat) : Int) + c ∧ (((n - 1000) % 1024 : Nat) : Int) + c < 1024 then some ((n : Int) + c).toNat else none
def ai_ox (n : Nat) (c : Int) : Option AV := match ai_off n c with
  | some k => some (.inr (.inr (.inr (.inr k))))
  | none => none
def ai_rx (i : Instr) (x y : AV) : Option AV := match i, x, y with
  | .iadd, .inr (.inr (.inr (.inr n))), .inl c => ai_ox n c.toInt
  | .iadd, .inl c, .inr (.inr (.inr (.inr n))) => ai_ox n c.toInt
  | .isub, .inr (.inr (.inr (.inr n))), .inl c => ai_ox n (-c.toInt)
  | _, _, _ => none
def ai_r0 (op : Option Int32) (i : Instr) (f : Int32 → Int32 → Int32) (x y : AV) : AV := match op with
  | some k => if i = .iand ∧ x = .inr (.inr (.inr (.inr 40))) ∧ y = .inl 15 then .inl k else ai_ri f x y
  | none => ai_ri f x y
def ai_r1 (op : Option Int32) (i : Instr) (f : Int32 → Int32 → Int32) (x y : AV) : AV := match ai_rx i x y with
  | some a => a
  | none => ai_r0 op i f x y
def ai_g4 (op : Option Int32) (i : Instr) (len pc : Nat) (lo : ALo) (st : List AV) : Option (Nat × ALo × List AV) := match ai_bi i len, st with
  | some f, y :: x :: st' => if ai_cat x = 1 ∧ ai_cat y = 1 then some (pc + len, lo, ai_r1 op i f x y :: st') else none
  | _, _ => none
def ai_rl (f : Int64 → Int64 → Int64) (x y : AV) : AV := match x, y with
  | .inr (.inr (.inl (some a))), .inr (.inr (.inl (some b))) => .inr (.inr (.inl (some (f a b))))
  | _, _ => .inr (.inr (.inl none))
def ai_xn : AV → Nat
  | .inr (.inr (.inr (.inr n))) => n
  | _ => 0
def ai_r2 (i : Instr) (f : Int64 → Int64 → Int64) (x y : AV) : AV :=
  if i = .land ∧ y = .inr (.inr (.inl (some 4294967295))) ∧ x = .inr (.inr (.inr (.inr 4))) then .inr (.inr (.inr (.inr 6)))
  else if i = .lor ∧ y = .inr (.inr (.inr (.inr 6))) ∧ x = .inr (.inr (.inr (.inr 3))) then .inr (.inr (.inr (.inr 1)))
  else if i = .land ∧ y = .inr (.inr (.inl (some 255))) ∧ x = .inr (.inr (.inr (.inr (ai_xn x)))) ∧ 10 ≤ ai_xn x ∧ ai_xn x < 18 then .inr (.inr (.inr (.inr (ai_xn x + 10))))
  else ai_rl f x y
def ai_g5 (i : Instr) (len pc : Nat) (lo : ALo) (st : List AV) : Option (Nat × ALo × List AV) := match ai_bl i len, st with
  | some f, y :: x :: st' => if ai_cat x = 2 ∧ ai_cat y = 2 then some (pc + len, lo, ai_r2 i f x y :: st') else none
  | _, _ => none
def ai_rs (f : Int64 → Int32 → Int64) (x y : AV) : AV := match x, y with
  | .inr (.inr (.inl (some a))), .inl b => .inr (.inr (.inl (some (f a b))))
  | _, _ => .inr (.inr (.inl none))
def ai_kn : AV → Nat
  | .inl c => c.toNatClampNeg / 8
  | _ => 0
def ai_r3 (i : Instr) (f : Int64 → Int32 → Int64) (x y : AV) : AV :=
  if i = .lshl ∧ x = .inr (.inr (.inr (.inr 2))) ∧ y = .inl 32 then .inr (.inr (.inr (.inr 3)))
  else if i = .lshr ∧ x = .inr (.inr (.inr (.inr 1))) ∧ y = .inl (nI (8 * ai_kn y)) ∧ ai_kn y < 8 then .inr (.inr (.inr (.inr (10 + ai_kn y))))
  else ai_rs f x y
def ai_g6 (i : Instr) (len pc : Nat) (lo : ALo) (st : List AV) : Option (Nat × ALo × List AV) := match ai_bs i len, st with
  | some f, y :: x :: st' => if ai_cat x = 2 ∧ ai_cat y = 1 then some (pc + len, lo, ai_r3 i f x y :: st') else none
  | _, _ => none
def ai_i2l (x : AV) : AV := match x with
  | .inl c => .inr (.inr (.inl (some c.toInt64)))
  | .inr (.inr (.inr (.inr n))) => if n = 41 then .inr (.inr (.inr (.inr 2))) else if n = 42 then .inr (.inr (.inr (.inr 4))) else .inr (.inr (.inl none))
  | _ => .inr (.inr (.inl none))
def ai_l2i (x : AV) : AV := match x with
  | .inr (.inr (.inl (some c))) => .inl c.toInt32
  | .inr (.inr (.inr (.inr n))) => if 20 ≤ n ∧ n < 28 then .inr (.inr (.inr (.inr (n + 10)))) else ai_top
  | _ => ai_top
def ai_i2b (x : AV) : AV := match x with
  | .inl c => .inl c.toInt8.toInt32
  | _ => ai_top
def ai_g7 (i : Instr) (len pc : Nat) (lo : ALo) (st : List AV) : Option (Nat × ALo × List AV) := match i, len, st with
  | .i2l, 1, x :: st' => if ai_cat x = 1 then some (pc + 1, lo, ai_i2l x :: st') else none
  | .l2i, 1, x :: st' => if ai_cat x = 2 then some (pc + 1, lo, ai_l2i x :: st') else none
  | .i2b, 1, x :: st' => if ai_cat x = 1 then some (pc + 1, lo, ai_i2b x :: st') else none
  | _, _, _ => none
def ai_lc (x y : AV) : AV := match x, y with
  | .inr (.inr (.inl (some a))), .inr (.inr (.inl (some b))) => .inl (lg_cmp a b)
  | _, _ => .inr (.inl (-1, 1))
def ai_g8 (nL : Nat) (i : Instr) (len pc : Nat) (lo : ALo) (st : List AV) : Option (Nat × ALo × List AV) := match i, len, st with
  | .lcmp, 1, y :: x :: st' => if ai_cat x = 2 ∧ ai_cat y = 2 then some (pc + 1, lo, ai_lc x y :: st') else none
  | .dup, 1, x :: st' => if ai_wd x = 1 then some (pc + 1, lo, x :: x :: st') else none
  | .dup2, 1, x :: y :: st' => if ai_wd x = 1 ∧ ai_wd y = 1 then some (pc + 1, lo, x :: y :: x :: y :: st') else none
  | .pop, 1, x :: st' => if ai_wd x = 1 then some (pc + 1, lo, st') else none
  | .iinc j n, 3, st => match lo.find? (fun q => q.1 == j) with
    | some (_, .inl c) => if j < nL then some (pc + 3, (j, .inl (c + Int32.ofInt n)) :: lo.filter (ai_fl j 1), st) else none
    | some (_, .inr (.inr (.inr (.inr k)))) => match ai_ox k n with
      | some a => if j < nL then some (pc + 3, (j, a) :: lo.filter (ai_fl j 1), st) else none
      | none => none
    | _ => none
  | .goto off, 3, st => if 0 ≤ (pc : Int) + off then some (((pc : Int) + off).toNat, lo, st) else none
  | _, _, _ => none
def ai_iv : AV → Option (Int × Int)
  | .inl c => some (c.toInt, c.toInt)
  | .inr (.inl q) => some q
  | _ => none
def ai_lt (a b : Int × Int) : Option Bool := if a.2 < b.1 then some true else if b.2 ≤ a.1 then some false else none
def ai_eq (a b : Int × Int) : Option Bool := if a.2 < b.1 then some false else if b.2 < a.1 then some false else if a.1 = a.2 ∧ b.1 = b.2 ∧ a.1 = b.1 then some true else none
def ai_not (b : Option Bool) : Option Bool := match b with
  | some true => some false
  | some false => some true
  | none => none
def ai_cmp (k : Jvm.ClassFile.Cond) (a b : Int × Int) : Option Bool := match k with
  | .eq => ai_eq a b
  | .ne => ai_not (ai_eq a b)
  | .lt => ai_lt a b
  | .ge => ai_not (ai_lt a b)
  | .gt => ai_lt b a
  | .le => ai_not (ai_lt b a)
def ai_rel (k : Jvm.ClassFile.Cond) (x y : Int32) : Prop := match k with
  | .eq => x = y
  | .ne => ¬ x = y
  | .lt => x < y
  | .ge => y ≤ x
  | .gt => y < x
  | .le => x ≤ y
def ai_to (pc : Nat) (off : Int) (b : Option Bool) : Option Nat := if 0 ≤ (pc : Int) + off then (match b with
  | some true => some ((pc : Int) + off).toNat
  | some false => some (pc + 3)
  | none => none) else none
def ai_bo (k : Jvm.ClassFile.Cond) (x y : AV) : Option Bool := match ai_iv x, ai_iv y with
  | some a, some b => ai_cmp k a b
  | _, _ => none
def ai_g9 (i : Instr) (len pc : Nat) (lo : ALo) (st : List AV) : Option (Nat × ALo × List AV) := match i, len, st with
  | .if_icmp k off, 3, y :: x :: st' => match ai_to pc off (ai_bo k x y) with
    | some t => some (t, lo, st')
    | none => none
  | .ifCond k off, 3, x :: st' => match ai_to pc off (ai_bo k x (.inl 0)) with
    | some t => some (t, lo, st')
    | none => none
  | _, _, _ => none
def ai_sw (pc : Nat) (dflt lo hi : Int) (offs : Array Int) (q : Int × Int) : Option Nat :=
  if q.2 < lo ∨ hi < q.1 then (if 0 ≤ (pc : Int) + dflt then some ((pc : Int) + dflt).toNat else none)
  else if q.1 = q.2 then (match offs[(q.1 - lo).toNat]? with
    | some off => if 0 ≤ (pc : Int) + off then some ((pc : Int) + off).toNat else none
    | none => none)
  else none
def ai_g10 (i : Instr) (len pc : Nat) (lo : ALo) (st : List AV) : Option (Nat × ALo × List AV) := match i, st with
  | .tableswitch d a b offs, x :: st' => match ai_iv x with
    | some q => match ai_sw pc d a b offs q with
      | some t => some (t, lo, st')
      | none => none
    | none => none
  | _, _ => none
/-! what stands for the answers -/
section AIV
variable {E : AE} {ws : va_W}
theorem ai_bi_iand {len : Nat} {f : Int32 → Int32 → Int32} (h : ai_bi .iand len = some f) : f = fun x y => x &&& y := by
  match len, h with
  | 0, h => cases h
  | 1, h => exact (Option.some.inj h).symm
  | n + 2, h => cases h
theorem ai_bl_land {len : Nat} {f : Int64 → Int64 → Int64} (h : ai_bl .land len = some f) : f = fun x y => x &&& y := by
  match len, h with
  | 0, h => cases h
  | 1, h => exact (Option.some.inj h).symm
  | n + 2, h => cases h
theorem ai_bl_lor {len : Nat} {f : Int64 → Int64 → Int64} (h : ai_bl .lor len = some f) : f = fun x y => x ||| y := by
  match len, h with
  | 0, h => cases h
  | 1, h => exact (Option.some.inj h).symm
  | n + 2, h => cases h
theorem ai_bs_lshl {len : Nat} {f : Int64 → Int32 → Int64} (h : ai_bs .lshl len = some f) : f = fun (x : Int64) (y : Int32) => x <<< (y.toInt64 &&& 63) := by
  match len, h with
  | 0, h => cases h
  | 1, h => exact (Option.some.inj h).symm
  | n + 2, h => cases h
theorem ai_bs_lshr {len : Nat} {f : Int64 → Int32 → Int64} (h : ai_bs .lshr len = some f) : f = fun (x : Int64) (y : Int32) => x >>> (y.toInt64 &&& 63) := by
  match len, h with
  | 0, h => cases h
  | 1, h => exact (Option.some.inj h).symm
  | n + 2, h => cases h
theorem ai_VX {n : Nat} (h0 : ¬ n = 0) {v : Value} : ai_V E ws (.inr (.inr (.inr (.inr n)))) v ↔ v = ai_xv E n := by
  show (if n = 0 then ∃ a, v = .ref a else v = ai_xv E n) ↔ _
  rw [if_neg h0]
theorem ai_ri_ok {f : Int32 → Int32 → Int32} {x y : AV} {a b : Int32} (hx : ai_V E ws x (.int a)) (hy : ai_V E ws y (.int b)) : ai_V E ws (ai_ri f x y) (.int (f a b)) := by
  unfold ai_ri
  split
  · have h1 : Value.int a = .int _ := hx
    have h2 : Value.int b = .int _ := hy
    cases h1; cases h2
    rfl
  · exact ai_top_ok _
theorem ai_r0_ok {op : Option Int32} (hop : ∀ k, op = some k → e_0 E &&& 15 = k) {i : Instr} {len : Nat} {f : Int32 → Int32 → Int32} (h : ai_bi i len = some f) {x y : AV} {a b : Int32} (hx : ai_V E ws x (.int a)) (hy : ai_V E ws y (.int b)) : ai_V E ws (ai_r0 op i f x y) (.int (f a b)) := by
  unfold ai_r0
  split
  case h_2 => exact ai_ri_ok hx hy
  next k =>
  split
  · next q =>
    obtain ⟨rfl, rfl, rfl⟩ := q
    rw [ai_bi_iand h]
    have h1 := (ai_VX (by decide)).mp hx
    have h2 : Value.int b = .int 15 := hy
    obtain rfl := Value.int.inj h2
    have h3 : Value.int a = .int (e_0 E) := h1
    obtain rfl := Value.int.inj h3
    exact congrArg Value.int (hop k rfl)
  · exact ai_ri_ok hx hy
theorem ai_off_ok (E : AE) {n k : Nat} {c : Int} (h : ai_off n c = some k) : 1000 ≤ n ∧ 1000 ≤ k ∧ ai_sv E k = ai_sv E n + Int32.ofInt c := by
  unfold ai_off at h
  split at h
  · next q =>
    obtain ⟨q1, q2, q3⟩ := q
    have hk : k = ((n : Int) + c).toNat := (Option.some.inj h).symm
    have e1 : (k - 1000) / 1024 = (n - 1000) / 1024 := by omega
    have e2 : (((k - 1000) % 1024 : Nat) : Int) = (((n - 1000) % 1024 : Nat) : Int) + c := by omega
    refine ⟨q1, by omega, ?_⟩
    unfold ai_sv
    rw [e1, e2, show (((n - 1000) % 1024 : Nat) : Int) + c - 512 = ((((n - 1000) % 1024 : Nat) : Int) - 512) + c by omega, Int32.ofInt_add, Int32.add_assoc]
  · cases h
theorem ai_xv_s (E : AE) {n : Nat} (h : 1000 ≤ n) : ai_xv E n = .int (ai_sv E n) := by
  rw [ai_xv, if_neg (by omega), if_neg (by omega), ai_xi, if_pos h]
theorem ai_ox_ok {n : Nat} {c : Int} {a : AV} (h : ai_ox n c = some a) {v : Value} (hv : ai_V E ws (.inr (.inr (.inr (.inr n)))) v) : ∃ x : Int32, v = .int x ∧ ai_V E ws a (.int (x + Int32.ofInt c)) := by
  unfold ai_ox at h
  split at h
  · next k hk =>
    cases h
    obtain ⟨h1, h2, h3⟩ := ai_off_ok E hk
    have hv := (ai_VX (by omega)).mp hv
    rw [ai_xv_s E h1] at hv
    exact ⟨_, hv, (ai_VX (by omega)).mpr (by rw [ai_xv_s E h2, h3])⟩
  · cases h
theorem ai_bi_iadd {len : Nat} {f : Int32 → Int32 → Int32} (h : ai_bi .iadd len = some f) : f = fun x y => x + y := by
  match len, h with
  | 0, h => cases h
  | 1, h => exact (Option.some.inj h).symm
  | n + 2, h => cases h
theorem ai_bi_isub {len : Nat} {f : Int32 → Int32 → Int32} (h : ai_bi .isub len = some f) : f = fun x y => x - y := by
  match len, h with
  | 0, h => cases h
  | 1, h => exact (Option.some.inj h).symm
  | n + 2, h => cases h
theorem ai_rx_ok {i : Instr} {len : Nat} {f : Int32 → Int32 → Int32} (h : ai_bi i len = some f) {x y r : AV} (hr : ai_rx i x y = some r) {a b : Int32} (hx : ai_V E ws x (.int a)) (hy : ai_V E ws y (.int b)) : ai_V E ws r (.int (f a b)) := by
  unfold ai_rx at hr
  split at hr
  · next n c =>
    rw [ai_bi_iadd h]
    have h2 : Value.int b = .int c := hy
    obtain rfl := Value.int.inj h2
    obtain ⟨q, e, hq⟩ := ai_ox_ok hr hx
    obtain rfl := Value.int.inj e
    rw [Int32.ofInt_toInt] at hq
    exact hq
  · next c n =>
    rw [ai_bi_iadd h]
    have h2 : Value.int a = .int c := hx
    obtain rfl := Value.int.inj h2
    obtain ⟨q, e, hq⟩ := ai_ox_ok hr hy
    obtain rfl := Value.int.inj e
    rw [Int32.ofInt_toInt, Int32.add_comm] at hq
    exact hq
  · next n c =>
    rw [ai_bi_isub h]
    have h2 : Value.int b = .int c := hy
    obtain rfl := Value.int.inj h2
    obtain ⟨q, e, hq⟩ := ai_ox_ok hr hx
    obtain rfl := Value.int.inj e
    rw [Int32.ofInt_neg, Int32.ofInt_toInt, ← Int32.sub_eq_add_neg] at hq
    exact hq
  · cases hr
theorem ai_r1_ok {op : Option Int32} (hop : ∀ k, op = some k → e_0 E &&& 15 = k) {i : Instr} {len : Nat} {f : Int32 → Int32 → Int32} (h : ai_bi i len = some f) {x y : AV} {a b : Int32} (hx : ai_V E ws x (.int a)) (hy : ai_V E ws y (.int b)) : ai_V E ws (ai_r1 op i f x y) (.int (f a b)) := by
  unfold ai_r1
  split
  · next r hr => exact ai_rx_ok h hr hx hy
  · exact ai_r0_ok hop h hx hy
theorem ai_rl_ok {f : Int64 → Int64 → Int64} {x y : AV} {a b : Int64} (hx : ai_V E ws x (.long a)) (hy : ai_V E ws y (.long b)) : ai_V E ws (ai_rl f x y) (.long (f a b)) := by
  unfold ai_rl
  split
  · have h1 : Value.long a = .long _ := hx
    have h2 : Value.long b = .long _ := hy
    cases h1; cases h2
    rfl
  · exact ⟨_, rfl⟩
theorem ai_r2_ok {i : Instr} {len : Nat} {f : Int64 → Int64 → Int64} (h : ai_bl i len = some f) {x y : AV} {a b : Int64} (hx : ai_V E ws x (.long a)) (hy : ai_V E ws y (.long b)) : ai_V E ws (ai_r2 i f x y) (.long (f a b)) := by
  unfold ai_r2
  split
  · next q =>
    obtain ⟨rfl, rfl, rfl⟩ := q
    rw [ai_bl_land h]
    have h1 : Value.long a = .long (e_2 E).toInt64 := (ai_VX (by decide)).mp hx
    have h2 : Value.long b = .long 4294967295 := hy
    obtain rfl := Value.long.inj h1
    obtain rfl := Value.long.inj h2
    exact (ai_VX (by decide)).mpr rfl
  · split
    · next q =>
      obtain ⟨rfl, rfl, rfl⟩ := q
      rw [ai_bl_lor h]
      have h1 : Value.long a = .long ((e_1 E).toInt64 <<< ((32 : Int32).toInt64 &&& 63)) := (ai_VX (by decide)).mp hx
      have h2 : Value.long b = .long ((e_2 E).toInt64 &&& 4294967295) := (ai_VX (by decide)).mp hy
      obtain rfl := Value.long.inj h1
      obtain rfl := Value.long.inj h2
      exact (ai_VX (by decide)).mpr rfl
    · split
      · next q =>
        obtain ⟨rfl, rfl, q3, q4, q5⟩ := q
        rw [ai_bl_land h]
        generalize ai_xn x = n at q3 q4 q5
        subst q3
        have h1 := (ai_VX (by omega)).mp hx
        have h2 : Value.long b = .long 255 := hy
        obtain rfl := Value.long.inj h2
        rw [ai_xv, if_neg (by omega), if_pos (by omega)] at h1
        obtain rfl := Value.long.inj h1
        refine (ai_VX (by omega)).mpr ?_
        rw [ai_xv, if_neg (by omega), if_pos (by omega)]
        refine congrArg Value.long ?_
        unfold ai_xl
        rw [if_neg (by omega), if_neg (by omega), if_neg (by omega), if_neg (by omega), if_neg (by omega), if_pos (by omega), if_neg (by omega), if_neg (by omega), if_neg (by omega), if_neg (by omega), if_neg (by omega), if_neg (by omega)]
        rw [show n + 10 - 20 = n - 10 by omega]
      · exact ai_rl_ok hx hy
theorem ai_rs_ok {f : Int64 → Int32 → Int64} {x y : AV} {a : Int64} {b : Int32} (hx : ai_V E ws x (.long a)) (hy : ai_V E ws y (.int b)) : ai_V E ws (ai_rs f x y) (.long (f a b)) := by
  unfold ai_rs
  split
  · have h1 : Value.long a = .long _ := hx
    have h2 : Value.int b = .int _ := hy
    cases h1; cases h2
    rfl
  · exact ⟨_, rfl⟩
theorem ai_r3_ok {i : Instr} {len : Nat} {f : Int64 → Int32 → Int64} (h : ai_bs i len = some f) {x y : AV} {a : Int64} {b : Int32} (hx : ai_V E ws x (.long a)) (hy : ai_V E ws y (.int b)) : ai_V E ws (ai_r3 i f x y) (.long (f a b)) := by
  unfold ai_r3
  split
  · next q =>
    obtain ⟨rfl, rfl, rfl⟩ := q
    rw [ai_bs_lshl h]
    have h1 : Value.long a = .long (e_1 E).toInt64 := (ai_VX (by decide)).mp hx
    have h2 : Value.int b = .int 32 := hy
    obtain rfl := Value.long.inj h1
    obtain rfl := Value.int.inj h2
    exact (ai_VX (by decide)).mpr rfl
  · split
    · next q =>
      obtain ⟨rfl, rfl, q3, q4⟩ := q
      rw [ai_bs_lshr h]
      generalize ai_kn y = n at q3 q4
      subst q3
      have h1 : Value.long a = .long (ai_w0 E) := (ai_VX (by decide)).mp hx
      have h2 : Value.int b = .int (nI (8 * n)) := hy
      obtain rfl := Value.long.inj h1
      obtain rfl := Value.int.inj h2
      refine (ai_VX (by omega)).mpr ?_
      rw [ai_xv, if_neg (by omega), if_pos (by omega)]
      refine congrArg Value.long ?_
      unfold ai_xl
      rw [if_neg (by omega), if_neg (by omega), if_neg (by omega), if_neg (by omega), if_neg (by omega), if_pos (by omega)]
      rw [show 10 + n - 10 = n by omega]
      rfl
    · exact ai_rs_ok hx hy
theorem ai_i2l_ok {x : AV} {a : Int32} (hx : ai_V E ws x (.int a)) : ai_V E ws (ai_i2l x) (.long a.toInt64) := by
  unfold ai_i2l
  split
  · have h1 : Value.int a = .int _ := hx
    cases h1
    rfl
  · next n =>
    split
    · next q =>
      subst q
      have h1 : Value.int a = .int (e_1 E) := (ai_VX (by decide)).mp hx
      obtain rfl := Value.int.inj h1
      exact (ai_VX (by decide)).mpr rfl
    · split
      · next q =>
        subst q
        have h1 : Value.int a = .int (e_2 E) := (ai_VX (by decide)).mp hx
        obtain rfl := Value.int.inj h1
        exact (ai_VX (by decide)).mpr rfl
      · exact ⟨_, rfl⟩
  · exact ⟨_, rfl⟩
theorem ai_l2i_ok {x : AV} {a : Int64} (hx : ai_V E ws x (.long a)) : ai_V E ws (ai_l2i x) (.int a.toInt32) := by
  unfold ai_l2i
  split
  · have h1 : Value.long a = .long _ := hx
    cases h1
    rfl
  · next n =>
    split
    · next q =>
      have h1 := (ai_VX (by omega)).mp hx
      rw [ai_xv, if_neg (by omega), if_pos (by omega)] at h1
      cases h1
      refine (ai_VX (by omega)).mpr ?_
      rw [ai_xv, if_neg (by omega), if_neg (by omega)]
      refine congrArg Value.int ?_
      unfold ai_xi ai_xl
      rw [if_neg (by omega), if_neg (by omega), if_neg (by omega), if_neg (by omega), if_neg (by omega), if_neg (by omega), if_neg (by omega), if_neg (by omega), if_neg (by omega), if_neg (by omega)]
      rw [show n + 10 - 30 = n - 20 by omega]
    · exact ai_top_ok _
  · exact ai_top_ok _
theorem ai_i2b_ok {x : AV} {a : Int32} (hx : ai_V E ws x (.int a)) : ai_V E ws (ai_i2b x) (.int a.toInt8.toInt32) := by
  unfold ai_i2b
  split
  · have h1 : Value.int a = .int _ := hx
    cases h1
    rfl
  · exact ai_top_ok _
theorem ai_lc_ok {x y : AV} {a b : Int64} (hx : ai_V E ws x (.long a)) (hy : ai_V E ws y (.long b)) : ai_V E ws (ai_lc x y) (.int (lg_cmp a b)) := by
  unfold ai_lc
  split
  · have h1 : Value.long a = .long _ := hx
    have h2 : Value.long b = .long _ := hy
    cases h1; cases h2
    rfl
  · refine ⟨_, rfl, ?_⟩
    unfold lg_cmp
    split
    · exact ⟨by decide, by decide⟩
    · split
      · exact ⟨by decide, by decide⟩
      · exact ⟨by decide, by decide⟩
theorem ai_iv_ok {a : AV} {q : Int × Int} (h : ai_iv a = some q) {v : Value} (hv : ai_V E ws a v) : ∃ x : Int32, v = .int x ∧ q.1 ≤ x.toInt ∧ x.toInt ≤ q.2 := by
  unfold ai_iv at h
  split at h
  · cases h; exact ⟨_, hv, Int.le_refl _, Int.le_refl _⟩
  · cases h; exact hv
  · cases h
theorem ai_lt_ok {a b : Int × Int} {t : Bool} {x y : Int32} (h : ai_lt a b = some t) (h1 : a.1 ≤ x.toInt) (h2 : x.toInt ≤ a.2) (h3 : b.1 ≤ y.toInt) (h4 : y.toInt ≤ b.2) : x < y ↔ t = true := by
  unfold ai_lt at h
  rw [Int32.lt_iff_toInt_lt]
  split at h
  · cases h; exact ⟨fun _ => rfl, fun _ => by omega⟩
  · split at h
    · cases h; exact ⟨fun q => by omega, fun q => by cases q⟩
    · cases h
theorem ai_eq_ok {a b : Int × Int} {t : Bool} {x y : Int32} (h : ai_eq a b = some t) (h1 : a.1 ≤ x.toInt) (h2 : x.toInt ≤ a.2) (h3 : b.1 ≤ y.toInt) (h4 : y.toInt ≤ b.2) : x = y ↔ t = true := by
  unfold ai_eq at h
  rw [← Int32.toInt_inj]
  split at h
  · cases h; exact ⟨fun q => by omega, fun q => by cases q⟩
  · split at h
    · cases h; exact ⟨fun q => by omega, fun q => by cases q⟩
    · split at h
      · next q => cases h; exact ⟨fun _ => rfl, fun _ => by omega⟩
      · cases h
theorem ai_not_ok {b : Option Bool} {t : Bool} (h : ai_not b = some t) {P : Prop} (k : ∀ u : Bool, b = some u → (P ↔ u = true)) : ¬ P ↔ t = true := by
  match b, h with
  | some true, h =>
    cases h
    have := k true rfl
    exact ⟨fun q => absurd (this.mpr rfl) q, fun q => by cases q⟩
  | some false, h =>
    cases h
    have := k false rfl
    exact ⟨fun _ => rfl, fun _ q => by cases this.mp q⟩
  | none, h => cases h
theorem ai_cmp_ok {k : Jvm.ClassFile.Cond} {a b : Int × Int} {t : Bool} {x y : Int32} (h : ai_cmp k a b = some t) (h1 : a.1 ≤ x.toInt) (h2 : x.toInt ≤ a.2) (h3 : b.1 ≤ y.toInt) (h4 : y.toInt ≤ b.2) : ai_rel k x y ↔ t = true := by
  cases k with
  | eq => exact ai_eq_ok h h1 h2 h3 h4
  | ne => exact ai_not_ok h (fun u hu => ai_eq_ok hu h1 h2 h3 h4)
  | lt => exact ai_lt_ok h h1 h2 h3 h4
  | ge =>
    have := ai_not_ok h (fun u hu => ai_lt_ok hu h1 h2 h3 h4)
    rw [Int32.not_lt] at this
    exact this
  | gt => exact ai_lt_ok h h3 h4 h1 h2
  | le =>
    have := ai_not_ok h (fun u hu => ai_lt_ok hu h3 h4 h1 h2)
    rw [Int32.not_lt] at this
    exact this
theorem ai_bo_ok {k : Jvm.ClassFile.Cond} {x y : AV} {t : Bool} (h : ai_bo k x y = some t) {v w : Value} (hv : ai_V E ws x v) (hw : ai_V E ws y w) : ∃ a b : Int32, v = .int a ∧ w = .int b ∧ (ai_rel k a b ↔ t = true) := by
  unfold ai_bo at h
  split at h
  · next q r h1 h2 =>
    obtain ⟨a, e1, l1, l2⟩ := ai_iv_ok h1 hv
    obtain ⟨b, e2, l3, l4⟩ := ai_iv_ok h2 hw
    exact ⟨a, b, e1, e2, ai_cmp_ok h l1 l2 l3 l4⟩
  · cases h
end AIV
