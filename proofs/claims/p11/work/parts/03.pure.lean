/-! ===== the abstract machine: values, locals, stacks; what stands for what; the instructions that move a frame alone ===== -/
/-- an int that is known, an int between two, a long (known or not), a reference (null, or the world's cell of that number), a named thing -/
abbrev AV : Type := Int32 ⊕ (Int × Int) ⊕ Option Int64 ⊕ Option Nat ⊕ Nat
/-- an array (the number of its kind, its length, its places) or an object (the number of its class, its fields) -/
abbrev AC : Type := (Nat × Nat × (Nat → AV)) ⊕ (Nat × List AV)
abbrev AE : Type := Nat × Int32 × Int32 × Int32 × (Nat → Int32)
def e_b (E : AE) : Nat := E.1
def e_0 (E : AE) : Int32 := E.2.1
def e_1 (E : AE) : Int32 := E.2.2.1
def e_2 (E : AE) : Int32 := E.2.2.2.1
def e_v (E : AE) : Nat → Int32 := E.2.2.2.2
/-- a named unknown and a small offset, coded from 1000 on: 1024 codes a name, 512 the offset 0 -/
def ai_sv (E : AE) (n : Nat) : Int32 := e_v E ((n - 1000) / 1024) + Int32.ofInt (((n - 1000) % 1024 : Nat) - 512)
abbrev ALo : Type := List (Nat × AV)
def ai_ad (ws : va_W) (i : Nat) : Option Nat := (ws[i]?).map Prod.fst
def ai_w0 (E : AE) : Int64 := ((e_1 E).toInt64 <<< ((32 : Int32).toInt64 &&& 63)) ||| ((e_2 E).toInt64 &&& 4294967295)
def ai_sh (E : AE) (k : Nat) : Int64 := ai_w0 E >>> ((nI (8 * k)).toInt64 &&& 63)
def ai_xl (E : AE) (n : Nat) : Int64 := if n = 1 then ai_w0 E else if n = 2 then (e_1 E).toInt64 else if n = 3 then (e_1 E).toInt64 <<< ((32 : Int32).toInt64 &&& 63) else if n = 4 then (e_2 E).toInt64 else if n = 6 then (e_2 E).toInt64 &&& 4294967295 else if n < 20 then ai_sh E (n - 10) else ai_sh E (n - 20) &&& 255
def ai_xi (E : AE) (n : Nat) : Int32 := if 1000 ≤ n then ai_sv E n else if n = 40 then (e_0 E) else if n = 41 then (e_1 E) else if n = 42 then (e_2 E) else (ai_sh E (n - 30) &&& 255).toInt32
def ai_xv (E : AE) (n : Nat) : Value := if n = 5 then .ref (e_b E) else if n < 30 then .long (ai_xl E n) else .int (ai_xi E n)
def ai_V (E : AE) (ws : va_W) : AV → Value → Prop
  | .inl c, v => v = .int c
  | .inr (.inl q), v => ∃ x : Int32, v = .int x ∧ q.1 ≤ x.toInt ∧ x.toInt ≤ q.2
  | .inr (.inr (.inl none)), v => ∃ x : Int64, v = .long x
  | .inr (.inr (.inl (some c))), v => v = .long c
  | .inr (.inr (.inr (.inl none))), v => v = .null
  | .inr (.inr (.inr (.inl (some i)))), v => ∃ a, v = .ref a ∧ ai_ad ws i = some a
  | .inr (.inr (.inr (.inr n))), v => if n = 0 then ∃ a, v = .ref a else v = ai_xv E n
def ai_cat : AV → Nat
  | .inl _ => 1
  | .inr (.inl _) => 1
  | .inr (.inr (.inl _)) => 2
  | .inr (.inr (.inr (.inl _))) => 3
  | .inr (.inr (.inr (.inr n))) => if n = 0 then 3 else if n = 5 then 3 else if n < 30 then 2 else 1
def ai_wd (a : AV) : Nat := if ai_cat a = 2 then 2 else 1
def ai_S (E : AE) (ws : va_W) : List AV → List Value → Prop
  | [], [] => True
  | a :: as, v :: vs => ai_V E ws a v ∧ ai_S E ws as vs
  | _, _ => False
def ai_L (E : AE) (ws : va_W) : ALo → List (Nat × Value) → Prop
  | [], [] => True
  | a :: as, v :: vs => (a.1 = v.1 ∧ ai_V E ws a.2 v.2) ∧ ai_L E ws as vs
  | _, _ => False
def ai_Ext (ws ws' : va_W) : Prop := ∀ (i a : Nat), ai_ad ws i = some a → ai_ad ws' i = some a
theorem ai_Ext.rf {ws : va_W} : ai_Ext ws ws := fun _ _ h => h
theorem ai_Ext.tr {a b c : va_W} (h : ai_Ext a b) (k : ai_Ext b c) : ai_Ext a c := fun i x q => k i x (h i x q)
theorem ai_V.mono {E : AE} {ws ws' : va_W} (h : ai_Ext ws ws') : ∀ {a : AV} {v : Value}, ai_V E ws a v → ai_V E ws' a v
  | .inl _, _, k => k
  | .inr (.inl _), _, k => k
  | .inr (.inr (.inl none)), _, k => k
  | .inr (.inr (.inl (some _))), _, k => k
  | .inr (.inr (.inr (.inl none))), _, k => k
  | .inr (.inr (.inr (.inl (some i)))), _, ⟨a, e, k⟩ => ⟨a, e, h i a k⟩
  | .inr (.inr (.inr (.inr _))), _, k => k
theorem ai_S.mono {E : AE} {ws ws' : va_W} (h : ai_Ext ws ws') : ∀ {a : List AV} {v : List Value}, ai_S E ws a v → ai_S E ws' a v
  | [], [], k => k
  | _ :: _, _ :: _, ⟨k, r⟩ => ⟨k.mono h, ai_S.mono h r⟩
  | [], _ :: _, k => k
  | _ :: _, [], k => k
theorem ai_L.mono {E : AE} {ws ws' : va_W} (h : ai_Ext ws ws') : ∀ {a : ALo} {v : List (Nat × Value)}, ai_L E ws a v → ai_L E ws' a v
  | [], [], k => k
  | _ :: _, _ :: _, ⟨⟨e, k⟩, r⟩ => ⟨⟨e, k.mono h⟩, ai_L.mono h r⟩
  | [], _ :: _, k => k
  | _ :: _, [], k => k
theorem ai_xcat (E : AE) {n : Nat} (h0 : ¬ n = 0) : (ai_xv E n).category = ai_wd (.inr (.inr (.inr (.inr n)))) := by
  unfold ai_xv ai_wd ai_cat
  by_cases h5 : n = 5
  · subst h5; rfl
  · by_cases h3 : n < 30
    · simp [h0, h5, h3, Value.category]
    · simp [h0, h5, h3, Value.category]
theorem ai_V_wd {E : AE} {ws : va_W} : ∀ {a : AV} {v : Value}, ai_V E ws a v → v.category = ai_wd a
  | .inl _, _, k => by have k : _ = _ := k; subst k; rfl
  | .inr (.inl _), _, ⟨_, e, _⟩ => by subst e; rfl
  | .inr (.inr (.inl none)), _, ⟨_, e⟩ => by subst e; rfl
  | .inr (.inr (.inl (some _))), _, k => by have k : _ = _ := k; subst k; rfl
  | .inr (.inr (.inr (.inl none))), _, k => by have k : _ = _ := k; subst k; rfl
  | .inr (.inr (.inr (.inl (some _)))), _, ⟨_, e, _⟩ => by subst e; rfl
  | .inr (.inr (.inr (.inr n))), v, k => by
    have k : if n = 0 then ∃ a, v = .ref a else v = ai_xv E n := k
    by_cases h0 : n = 0
    · rw [if_pos h0] at k
      obtain ⟨a, e⟩ := k
      subst e; subst h0; rfl
    · rw [if_neg h0] at k
      rw [k]
      exact ai_xcat E h0
theorem ai_V_int {E : AE} {ws : va_W} : ∀ {a : AV} {v : Value}, ai_cat a = 1 → ai_V E ws a v → ∃ x : Int32, v = .int x
  | .inl c, _, _, k => ⟨c, k⟩
  | .inr (.inl _), _, _, ⟨x, e, _⟩ => ⟨x, e⟩
  | .inr (.inr (.inl none)), _, h, _ => by cases h
  | .inr (.inr (.inl (some _))), _, h, _ => by cases h
  | .inr (.inr (.inr (.inl none))), _, h, _ => by cases h
  | .inr (.inr (.inr (.inl (some _)))), _, h, _ => by cases h
  | .inr (.inr (.inr (.inr n))), v, h, k => by
    have k : if n = 0 then ∃ a, v = .ref a else v = ai_xv E n := k
    have h : (if n = 0 then 3 else if n = 5 then 3 else if n < 30 then 2 else 1) = 1 := h
    by_cases h0 : n = 0
    · rw [if_pos h0] at h; cases h
    · rw [if_neg h0] at h k
      by_cases h5 : n = 5
      · rw [if_pos h5] at h; cases h
      · rw [if_neg h5] at h
        by_cases h3 : n < 30
        · rw [if_pos h3] at h; cases h
        · exact ⟨_, by rw [k, ai_xv, if_neg h5, if_neg h3]⟩
theorem ai_V_long {E : AE} {ws : va_W} : ∀ {a : AV} {v : Value}, ai_cat a = 2 → ai_V E ws a v → ∃ x : Int64, v = .long x
  | .inl c, _, h, _ => by cases h
  | .inr (.inl _), _, h, _ => by cases h
  | .inr (.inr (.inl none)), _, _, ⟨x, e⟩ => ⟨x, e⟩
  | .inr (.inr (.inl (some c))), _, _, k => ⟨c, k⟩
  | .inr (.inr (.inr (.inl none))), _, h, _ => by cases h
  | .inr (.inr (.inr (.inl (some _)))), _, h, _ => by cases h
  | .inr (.inr (.inr (.inr n))), v, h, k => by
    have k : if n = 0 then ∃ a, v = .ref a else v = ai_xv E n := k
    have h : (if n = 0 then 3 else if n = 5 then 3 else if n < 30 then 2 else 1) = 2 := h
    by_cases h0 : n = 0
    · rw [if_pos h0] at h; cases h
    · rw [if_neg h0] at h k
      by_cases h5 : n = 5
      · rw [if_pos h5] at h; cases h
      · rw [if_neg h5] at h
        by_cases h3 : n < 30
        · exact ⟨_, by rw [k, ai_xv, if_neg h5, if_pos h3]⟩
        · rw [if_neg h3] at h; cases h
theorem ai_V_ref {E : AE} {ws : va_W} : ∀ {a : AV} {v : Value}, ai_cat a = 3 → ai_V E ws a v → v = .null ∨ ∃ x : Nat, v = .ref x
  | .inl c, _, h, _ => by cases h
  | .inr (.inl _), _, h, _ => by cases h
  | .inr (.inr (.inl none)), _, h, _ => by cases h
  | .inr (.inr (.inl (some c))), _, h, _ => by cases h
  | .inr (.inr (.inr (.inl none))), _, _, k => Or.inl k
  | .inr (.inr (.inr (.inl (some _)))), _, _, ⟨a, e, _⟩ => Or.inr ⟨a, e⟩
  | .inr (.inr (.inr (.inr n))), v, h, k => by
    have k : if n = 0 then ∃ a, v = .ref a else v = ai_xv E n := k
    have h : (if n = 0 then 3 else if n = 5 then 3 else if n < 30 then 2 else 1) = 3 := h
    by_cases h0 : n = 0
    · rw [if_pos h0] at k; exact Or.inr k
    · rw [if_neg h0] at h k
      by_cases h5 : n = 5
      · exact Or.inr ⟨_, by rw [k, ai_xv, if_pos h5]⟩
      · rw [if_neg h5] at h
        by_cases h3 : n < 30
        · rw [if_pos h3] at h; cases h
        · rw [if_neg h3] at h; cases h
theorem ai_find {E : AE} {ws : va_W} (j : Nat) : ∀ {lo : ALo} {lv : List (Nat × Value)}, ai_L E ws lo lv → ∀ {q : Nat × AV}, lo.find? (fun q => q.1 == j) = some q → ∃ (k : Nat) (v : Value), lv[k]? = some (j, v) ∧ ai_V E ws q.2 v
  | [], _, _, _, h => by cases h
  | a :: as, [], k, _, _ => k.elim
  | a :: as, v :: vs, ⟨⟨e, k⟩, r⟩, q, h => by
    rw [List.find?_cons] at h
    by_cases c : (a.1 == j) = true
    · rw [c] at h
      cases h
      exact ⟨0, v.2, by rw [show j = v.1 from (beq_iff_eq.mp c).symm.trans e]; rfl, k⟩
    · rw [Bool.not_eq_true] at c
      rw [c] at h
      obtain ⟨k2, w, h1, h2⟩ := ai_find j r h
      exact ⟨k2 + 1, w, h1, h2⟩
def ai_fl (j c : Nat) (q : Nat × AV) : Bool := if c = 2 then !(q.1 == j) && (!(q.1 == j + 1) && !(q.1 + 1 == j && ai_wd q.2 == 2)) else !(q.1 == j) && !(q.1 + 1 == j && ai_wd q.2 == 2)
def ai_fv (j c : Nat) (q : Nat × Value) : Bool := if c = 2 then !(q.1 == j) && (!(q.1 == j + 1) && !(q.1 + 1 == j && q.2.category == 2)) else !(q.1 == j) && !(q.1 + 1 == j && q.2.category == 2)
theorem ai_filter {E : AE} {ws : va_W} (j c : Nat) : ∀ {lo : ALo} {lv : List (Nat × Value)}, ai_L E ws lo lv → ai_L E ws (lo.filter (ai_fl j c)) (lv.filter (ai_fv j c))
  | [], [], _ => trivial
  | [], _ :: _, k => k.elim
  | _ :: _, [], k => k.elim
  | a :: as, v :: vs, ⟨⟨e, k⟩, r⟩ => by
    have hs : ai_fl j c a = ai_fv j c v := by unfold ai_fl ai_fv; rw [ai_V_wd k, e]
    rw [List.filter_cons, List.filter_cons, hs]
    by_cases h : ai_fv j c v = true
    · rw [if_pos h, if_pos h]; exact ⟨⟨e, k⟩, ai_filter j c r⟩
    · rw [if_neg h, if_neg h]; exact ai_filter j c r
def ai_top : AV := .inr (.inl (-2147483648, 2147483647))
theorem ai_top_ok {E : AE} {ws : va_W} (x : Int32) : ai_V E ws ai_top (.int x) := ⟨x, rfl, by have := Int32.le_toInt x; simp at this ⊢; omega, by have := Int32.toInt_lt x; simp at this ⊢; omega⟩
/-! rows of one kind together -/
def ai_bi : Instr → Nat → Option (Int32 → Int32 → Int32)
  | .iadd, 1 => some (fun x y => x + y)
  | .isub, 1 => some (fun x y => x - y)
  | .imul, 1 => some (fun x y => x * y)
  | .iand, 1 => some (fun x y => x &&& y)
  | .ior, 1 => some (fun x y => x ||| y)
  | .ixor, 1 => some (fun x y => x ^^^ y)
  | .ishl, 1 => some (fun x y => x <<< (y &&& 31))
  | .ishr, 1 => some (fun x y => x >>> (y &&& 31))
  | .iushr, 1 => some (fun x y => (x.toUInt32 >>> (y.toUInt32 &&& Int32.toUInt32 31)).toInt32)
  | _, _ => none
def ai_bl : Instr → Nat → Option (Int64 → Int64 → Int64)
  | .ladd, 1 => some (fun x y => x + y)
  | .lsub, 1 => some (fun x y => x - y)
  | .land, 1 => some (fun x y => x &&& y)
  | .lor, 1 => some (fun x y => x ||| y)
  | _, _ => none
def ai_bs : Instr → Nat → Option (Int64 → Int32 → Int64)
  | .lshl, 1 => some (fun x y => x <<< (y.toInt64 &&& 63))
  | .lshr, 1 => some (fun x y => x >>> (y.toInt64 &&& 63))
  | .lushr, 1 => some (fun x y => (x.toUInt64 >>> (y.toInt64.toUInt64 &&& Int64.toUInt64 63)).toInt64)
  | _, _ => none
def ai_cs : Instr → Nat → Option AV
  | .iconst n, 1 => some (.inl (Int32.ofInt n))
  | .bipush n, 2 => some (.inl (Int8.ofInt n).toInt32)
  | .sipush n, 3 => some (.inl (Int16.ofInt n).toInt32)
  | .lconst n, 1 => some (.inr (.inr (.inl (some (Int64.ofNat (n : Nat))))))
  | .aconst_null, 1 => some (.inr (.inr (.inr (.inl none))))
  | _, _ => none
def ai_ld : Instr → Nat → Option (Nat × Nat)
  | .iload_n k, 1 => some (k.val, 1)
  | .iload k, 2 => some (k, 1)
  | .lload_n k, 1 => some (k.val, 2)
  | .lload k, 2 => some (k, 2)
  | .aload_n k, 1 => some (k.val, 3)
  | .aload k, 2 => some (k, 3)
  | _, _ => none
def ai_sr : Instr → Nat → Option (Nat × Nat)
  | .istore_n k, 1 => some (k.val, 1)
  | .istore k, 2 => some (k, 1)
  | .lstore_n k, 1 => some (k.val, 2)
  | .lstore k, 2 => some (k, 2)
  | .astore_n k, 1 => some (k.val, 3)
  | .astore k, 2 => some (k, 3)
  | _, _ => none
section AIR
variable {p : Program} {l : Launch} {e : Env} {R : Room} {s : State} {m : MethodId} {args : Array Value} {below : List Frame} {meth : Method} {c : Code} {H : Heap} {locs : List Loc} {cells slots : Nat} {Q : State → Prop}
variable {cc : ByteArray} {pc : Nat} {ls : Array Slot} {rest : List Value} {i : Instr} {len : Nat}
theorem ai_bi_ok (hx : p.tables.exec = Jvm.exec) (hb : c.code = cc) {f : Int32 → Int32 → Int32} (h : ai_bi i len = some f) (hd : decode cc pc = .ok (i, len)) {x y : Int32}
    (k : W p l e R s m args below meth c H locs cells slots Q (F0 m (pc + len) ls (.int (f x y) :: rest))) : W p l e R s m args below meth c H locs cells slots Q (F0 m pc ls (.int y :: .int x :: rest)) := by
  unfold ai_bi at h
  split at h
  · cases h; exact lv_iadd hx hb hd k
  · cases h; exact lv_isub hx hb hd k
  · cases h; exact lv_imul hx hb hd k
  · cases h; exact lv_iand hx hb hd k
  · cases h; exact lv_ior hx hb hd k
  · cases h; exact lv_ixor hx hb hd k
  · cases h; exact lv_ishl hx hb hd k
  · cases h; exact lv_ishr hx hb hd k
  · cases h; exact lv_iushr hx hb hd rfl k
  · cases h
theorem ai_bl_ok (hx : p.tables.exec = Jvm.exec) (hb : c.code = cc) {f : Int64 → Int64 → Int64} (h : ai_bl i len = some f) (hd : decode cc pc = .ok (i, len)) {x y : Int64}
    (k : W p l e R s m args below meth c H locs cells slots Q (F0 m (pc + len) ls (.long (f x y) :: rest))) : W p l e R s m args below meth c H locs cells slots Q (F0 m pc ls (.long y :: .long x :: rest)) := by
  unfold ai_bl at h
  split at h
  · cases h; exact lv_ladd hx hb hd k
  · cases h; exact lv_lsub hx hb hd k
  · cases h; exact lv_land hx hb hd k
  · cases h; exact lv_lor hx hb hd k
  · cases h
theorem ai_bs_ok (hx : p.tables.exec = Jvm.exec) (hb : c.code = cc) {f : Int64 → Int32 → Int64} (h : ai_bs i len = some f) (hd : decode cc pc = .ok (i, len)) {x : Int64} {y : Int32}
    (k : W p l e R s m args below meth c H locs cells slots Q (F0 m (pc + len) ls (.long (f x y) :: rest))) : W p l e R s m args below meth c H locs cells slots Q (F0 m pc ls (.int y :: .long x :: rest)) := by
  unfold ai_bs at h
  split at h
  · cases h; exact lv_lshl hx hb hd rfl k
  · cases h; exact lv_lshr hx hb hd rfl k
  · cases h; exact lv_lushr hx hb hd rfl k
  · cases h
theorem ai_cs_ok (hx : p.tables.exec = Jvm.exec) (hb : c.code = cc) {a : AV} (h : ai_cs i len = some a) (hd : decode cc pc = .ok (i, len)) (E : AE) (ws : va_W)
    (k : ∀ v : Value, ai_V E ws a v → W p l e R s m args below meth c H locs cells slots Q (F0 m (pc + len) ls (v :: rest))) : W p l e R s m args below meth c H locs cells slots Q (F0 m pc ls rest) := by
  unfold ai_cs at h
  split at h
  · cases h; exact lv_iconst hx hb hd rfl (k _ rfl)
  · cases h; exact lv_bipush hx hb hd rfl (k _ rfl)
  · cases h; exact lv_sipush hx hb hd rfl (k _ rfl)
  · cases h; exact lv_lconst hx hb hd rfl (k _ rfl)
  · cases h; exact lv_null hx hb hd (k _ rfl)
  · cases h
theorem ai_ld_ok (hx : p.tables.exec = Jvm.exec) (hb : c.code = cc) {j t : Nat} (h : ai_ld i len = some (j, t)) (hd : decode cc pc = .ok (i, len)) {v : Value} (hl : ls[j]? = some (.val v)) {E : AE} {ws : va_W} {a : AV} (ha : ai_cat a = t) (hv : ai_V E ws a v)
    (k : W p l e R s m args below meth c H locs cells slots Q (F0 m (pc + len) ls (v :: rest))) : W p l e R s m args below meth c H locs cells slots Q (F0 m pc ls rest) := by
  unfold ai_ld at h
  split at h
  · cases h; obtain ⟨x, rfl⟩ := ai_V_int ha hv; exact lv_iload_n hx hb hd rfl hl k
  · cases h; obtain ⟨x, rfl⟩ := ai_V_int ha hv; exact lv_iload hx hb hd hl k
  · cases h; obtain ⟨x, rfl⟩ := ai_V_long ha hv; exact lv_lload_n hx hb hd rfl hl k
  · cases h; obtain ⟨x, rfl⟩ := ai_V_long ha hv; exact lv_lload hx hb hd hl k
  · cases h
    rcases ai_V_ref ha hv with rfl | ⟨x, rfl⟩
    · exact lv_aload_nN hx hb hd rfl hl k
    · exact lv_aload_n hx hb hd rfl hl k
  · cases h
    rcases ai_V_ref ha hv with rfl | ⟨x, rfl⟩
    · exact lv_aloadN hx hb hd hl k
    · exact lv_aload hx hb hd hl k
  · cases h
theorem ai_sr_ok (hx : p.tables.exec = Jvm.exec) (hb : c.code = cc) {j t nL : Nat} {lv : List (Nat × Value)} (h : ai_sr i len = some (j, t)) (hd : decode cc pc = .ok (i, len)) (hl : lv_has ls nL lv) (hn : j < nL) (hn2 : t = 2 → j + 1 < nL) {v : Value} {E : AE} {ws : va_W} {a : AV} (ha : ai_cat a = t) (hv : ai_V E ws a v)
    (k : ∀ ls' : Array Slot, lv_has ls' nL ((j, v) :: lv.filter (ai_fv j t)) → W p l e R s m args below meth c H locs cells slots Q (F0 m (pc + len) ls' rest)) : W p l e R s m args below meth c H locs cells slots Q (F0 m pc ls (v :: rest)) := by
  unfold ai_sr at h
  split at h
  · cases h; obtain ⟨x, rfl⟩ := ai_V_int ha hv; exact lv_istore_n hx hb hd rfl hl hn rfl k
  · cases h; obtain ⟨x, rfl⟩ := ai_V_int ha hv; exact lv_istore hx hb hd hl hn rfl k
  · cases h; obtain ⟨x, rfl⟩ := ai_V_long ha hv; exact lv_lstore_n hx hb hd rfl hl (hn2 rfl) rfl k
  · cases h; obtain ⟨x, rfl⟩ := ai_V_long ha hv; exact lv_lstore hx hb hd hl (hn2 rfl) rfl k
  · cases h
    rcases ai_V_ref ha hv with rfl | ⟨x, rfl⟩
    · exact lv_astore_nN hx hb hd rfl hl hn rfl k
    · exact lv_astore_n hx hb hd rfl hl hn rfl k
  · cases h
    rcases ai_V_ref ha hv with rfl | ⟨x, rfl⟩
    · exact lv_astoreN hx hb hd hl hn rfl k
    · exact lv_astore hx hb hd hl hn rfl k
  · cases h
end AIR
