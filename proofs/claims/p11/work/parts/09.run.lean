/-! ===== methods, and the machine's run over the abstract world ===== -/
abbrev AQ : Type := Nat × Instr × Nat × List Nat
/-- own class, name, bytes, locals, what it returns; handlers, their exceptions, kind (0 virtual, 1 static, 2 constructor), parameters, class number, places in the tables; code -/
abbrev AM : Type := (String × MethodName × ByteArray × Nat × Option FieldType) × (List (Nat × Nat × Nat × Nat) × List (Nat × Nat) × Nat × Nat × Nat × List Nat) × List AQ
def m_own (M : AM) : String := M.1.1
def m_y (M : AM) : MethodName := M.1.2.1
def m_cc (M : AM) : ByteArray := M.1.2.2.1
def m_L (M : AM) : Nat := M.1.2.2.2.1
def m_ret (M : AM) : Option FieldType := M.1.2.2.2.2
def m_hh (M : AM) : List (Nat × Nat × Nat × Nat) := M.2.1.1
def m_hx (M : AM) : List (Nat × Nat) := M.2.1.2.1
def m_kind (M : AM) : Nat := M.2.1.2.2.1
def m_n (M : AM) : Nat := M.2.1.2.2.2.1
def m_ci (M : AM) : Nat := M.2.1.2.2.2.2.1
def m_ts (M : AM) : List Nat := M.2.1.2.2.2.2.2
def m_code (M : AM) : List AQ := M.2.2
def m_G : List Cond := lw_tbl.filter goodWord
def m_head (M : AM) : Cond := if m_hh M = [] then .code (m_y M) (m_cc M) (m_L M) (m_ret M) else .codeWith (m_y M) (m_cc M) (m_L M) (m_ret M) (m_hh M)
def m_ws (M : AM) : List Cond := m_head M :: m_G
def ax_n : Nat → String
  | 0 => "java/lang/IllegalArgumentException"
  | 1 => "java/lang/UnsupportedOperationException"
  | 2 => "java/util/NoSuchElementException"
  | 3 => "java/lang/IndexOutOfBoundsException"
  | _ => "java/lang/IllegalStateException"
def ax_up : List String := ["java/lang/RuntimeException", "java/lang/Exception"]
/-- words that are no good words but are kept by their own laws -/
def ax_kw (w : Cond) : Bool := match w with
  | .declares _ => true
  | .castable _ _ => true
  | .methodLinkNest _ _ _ _ => true
  | _ => false
def ax_ck (own : String) (cc : ByteArray) (pc x n t1 t2 ic t3 : Nat) : Bool :=
  decide (n < 5) && ai_w t1 (.classLink own x (ax_n n)) && ai_w t2 (.initialized (ax_n n)) && decide (decode cc (pc + 3) = .ok (.dup, 1)) && decide (decode cc (pc + 4) = .ok (.invokespecial ic, 3)) && decide (decode cc (pc + 7) = .ok (.athrow, 1))
    && ai_w t3 (.methodLink own ic (Bundle.init0 (ax_n n)))
/-- the words of a throw that don't speak of its place -/
def ax_ws (n : Nat) : List Cond := (Bundle.throwableAtoms ++ (Bundle.chain0Atoms (ax_n n) ax_up ++ ([.instantiable (ax_n n) 6, .castable (ax_n n) (ax_n n), .selects (ax_n n) Bundle.tFill0 Bundle.tFill0, .selects (ax_n n) Bundle.tFill Bundle.tFill,
   .lays (ax_n n) Bundle.tN "cause" "Ljava/lang/Throwable;", .lays (ax_n n) Bundle.tN "stackTrace" Bundle.steD, .lays (ax_n n) Bundle.tN "suppressedExceptions" Bundle.listD, .lays (ax_n n) Bundle.tN "detailMessage" "Ljava/lang/String;",
   .isRef (.static Bundle.tN "UNASSIGNED_STACK" Bundle.steD), .isRef (.static Bundle.tN "SUPPRESSED_SENTINEL" Bundle.listD),
   .fieldLink Bundle.tN 198 Bundle.tN "backtrace" "Ljava/lang/Object;", .lays Bundle.tN Bundle.tN "backtrace" "Ljava/lang/Object;", .lays (ax_n n) Bundle.tN "backtrace" "Ljava/lang/Object;"] : List Cond))).filter vx_no
theorem ax_split {own : String} {ic n : Nat} {w : Cond} (h : w ∈ vx_at0 own ic (ax_n n) ax_up) : w = .methodLink own ic (Bundle.init0 (ax_n n)) ∨ w ∈ ax_ws n := by
  obtain ⟨h1, h2⟩ := List.mem_filter.mp h
  unfold Bundle.ownAtoms0 at h1
  rcases List.mem_append.mp h1 with h1 | h1
  · rcases List.mem_append.mp h1 with h1 | h1
    · exact Or.inr (List.mem_filter.mpr ⟨List.mem_append_left _ h1, h2⟩)
    · exact Or.inr (List.mem_filter.mpr ⟨List.mem_append_right _ (List.mem_append_left _ h1), h2⟩)
  · rcases List.mem_cons.mp h1 with h1 | h1
    · exact Or.inl h1
    · exact Or.inr (List.mem_filter.mpr ⟨List.mem_append_right _ (List.mem_append_right _ h1), h2⟩)
def ax_one (w : Cond) : Bool := decide (w ∈ lw_tbl) && (vx_ot w && (goodWord w || ax_kw w))
set_option maxRecDepth 100000 in
theorem ax_w0 : (ax_ws 0).all ax_one = true := by decide +kernel
set_option maxRecDepth 100000 in
theorem ax_w1 : (ax_ws 1).all ax_one = true := by decide +kernel
set_option maxRecDepth 100000 in
theorem ax_w2 : (ax_ws 2).all ax_one = true := by decide +kernel
set_option maxRecDepth 100000 in
theorem ax_w3 : (ax_ws 3).all ax_one = true := by decide +kernel
set_option maxRecDepth 100000 in
theorem ax_w4 : (ax_ws 4).all ax_one = true := by decide +kernel
theorem ax_all {own : String} {ic n : Nat} (hn : n < 5) (hm : Cond.methodLink own ic (Bundle.init0 (ax_n n)) ∈ lw_tbl) : ∀ w ∈ vx_at0 own ic (ax_n n) ax_up, w ∈ lw_tbl ∧ vx_ot w = true ∧ (goodWord w = true ∨ ax_kw w = true) := by
  intro w hw
  rcases ax_split hw with rfl | hw
  · exact ⟨hm, rfl, Or.inl rfl⟩
  · have h : ax_one w = true := by
      match n, hn, hw with
      | 0, _, hw => exact List.all_eq_true.mp ax_w0 w hw
      | 1, _, hw => exact List.all_eq_true.mp ax_w1 w hw
      | 2, _, hw => exact List.all_eq_true.mp ax_w2 w hw
      | 3, _, hw => exact List.all_eq_true.mp ax_w3 w hw
      | 4, _, hw => exact List.all_eq_true.mp ax_w4 w hw
    unfold ax_one at h
    simp only [Bool.and_eq_true, decide_eq_true_eq, Bool.or_eq_true] at h
    exact h
def ai_ck2 (mt : List AM) (own : String) (cc : ByteArray) (q : AQ) : Bool := match q.2.1, q.2.2.2 with
  | .invokevirtual x, [k, t] => match mt[k]? with
    | some M => ai_w t (.methodLink own x (m_y M))
    | none => false
  | .invokestatic x, [k, t] => match mt[k]? with
    | some M => ai_w t (.methodLink own x (m_y M))
    | none => false
  | .invokespecial x, [k, t] => match mt[k]? with
    | some M => ai_w t (.methodLink own x (m_y M))
    | none => false
  | .invokespecial x, [t1, t2, t3] => ai_w t1 (.methodLink own x Lib.objectInit) && ai_w t2 (.instanceMethod Lib.objectInit) && ai_w t3 (.code Lib.objectInit ⟨#[0xb1]⟩ 1 none)
  | .invokespecial x, [k, t, _, _] => match mt[k]? with
    | some M => ai_wb t (.methodLinkNest own x (m_y M) "MountYard")
    | none => false
  | .new x, [n, t1, t2, ic, t3] => ax_ck own cc q.1 x n t1 t2 ic t3
  | _, _ => true
def ai_ckh (own : String) (hh : List (Nat × Nat × Nat × Nat)) (hx : List (Nat × Nat)) : Bool := match hh, hx with
  | [], [] => true
  | q :: hh, x :: hx => decide (x.1 < 5) && decide (q.2.2.2 ≠ 0) && ai_w x.2 (.classLink own q.2.2.2 (ax_n x.1)) && ai_ckh own hh hx
  | _, _ => false
/-- what a method's row in the list must be -/
def ai_mok1 (M : AM) : Bool :=
  plainName (m_own M) && decide ((m_y M).cls = m_own M) && decide (m_own M ≠ "java/lang/invoke/MethodHandle") && decide (m_own M ≠ "java/lang/invoke/VarHandle")
    && decide ((parseMethodDescriptor (m_y M).desc).map (fun d => d.parameters.length) = some (m_n M)) && decide (m_L M ≤ 16)
    && (match m_ts M with
      | [tc, ti, tk, tsel] => ai_w tc (m_head M) && ai_w ti (.initialized (m_own M))
        && (match m_kind M with
          | 0 => ai_w tk (.instanceMethod (m_y M)) && ai_w tsel (.selects (m_own M) (m_y M) (m_y M)) && decide ((vwCl[m_ci M]?).map (fun r => r.1) = some (m_own M)) && decide (m_hh M = [])
          | 1 => ai_w tk (.static (m_y M))
          | _ => ai_w tk (.instanceMethod (m_y M)) && decide ((m_y M).name = "<init>") && decide (m_ret M = none) && decide (m_hh M = []) && decide (m_kind M = 2))
      | _ => false)
    && ai_ckh (m_own M) (m_hh M) (m_hx M)
def ai_row (mt : List AM) (M : AM) (q : AQ) : Bool := decide (decode (m_cc M) q.1 = .ok (q.2.1, q.2.2.1)) && ai_chk (m_own M) q.2.1 q.2.2.2 && ai_ck2 mt (m_own M) (m_cc M) q
def ai_mok2 (mt : List AM) (M : AM) : Bool := (m_code M).all (ai_row mt M)
def ai_call (mt : List AM) (i : Instr) (len : Nat) (aux : List Nat) (st : List AV) (σ : List AC) : Option (AM × List AV × List AV) := match i, len, aux with
  | .invokevirtual _, 3, [k, _] => match mt[k]? with
    | some M => match st.drop (m_n M) with
      | x :: r => match ai_ob σ x (m_ci M) with
        | some _ => if m_kind M = 0 ∧ (r.map ai_wd).sum ≤ 8 then some (M, x :: (st.take (m_n M)).reverse, r) else none
        | none => none
      | [] => none
    | none => none
  | .invokestatic _, 3, [k, _] => match mt[k]? with
    | some M => if m_kind M = 1 ∧ m_n M ≤ st.length ∧ ((st.drop (m_n M)).map ai_wd).sum ≤ 8 then some (M, (st.take (m_n M)).reverse, st.drop (m_n M)) else none
    | none => none
  | .invokespecial _, 3, [k, _] => match mt[k]? with
    | some M => match st.drop (m_n M) with
      | x :: r => match ai_rf x with
        | some _ => if m_kind M = 2 ∧ (r.map ai_wd).sum ≤ 8 then some (M, x :: (st.take (m_n M)).reverse, r) else none
        | none => none
      | [] => none
    | none => none
  | .invokespecial _, 3, [k, _, _, _] => match mt[k]? with
    | some M => match st.drop (m_n M) with
      | x :: r => match ai_rf x with
        | some _ => if m_kind M = 2 ∧ (r.map ai_wd).sum ≤ 8 then some (M, x :: (st.take (m_n M)).reverse, r) else none
        | none => none
      | [] => none
    | none => none
  | _, _, _ => none
def ai_oi (i : Instr) (len : Nat) (aux : List Nat) (st : List AV) : Option (List AV) := match i, len, aux, st with
  | .invokespecial _, 3, [_, _, _], x :: r => match ai_rf x with
    | some _ => if (r.map ai_wd).sum ≤ 8 then some r else none
    | none => none
  | _, _, _, _ => none
def ai_sc (sc : Option (Nat × (Nat → AV))) (i : Instr) (len : Nat) (st : List AV) : Option (List AV) := match sc, i, len, st with
  | some q, .iaload, 1, j :: x :: r => if x = .inr (.inr (.inr (.inr 5))) then (match ai_ix j q.1 with
    | some k => some (q.2 k :: r)
    | none => none) else none
  | some q, .arraylength, 1, x :: r => if x = .inr (.inr (.inr (.inr 5))) then some (.inl (Int32.ofNat q.1) :: r) else none
  | _, _, _, _ => none
def ai_ret (M : AM) (i : Instr) (len : Nat) (st : List AV) : Option (Option AV) := match i, len, st with
  | .ireturn, 1, [x] => match m_ret M with
    | some t => if (t = .int ∨ t = .boolean) ∧ ai_fit t x = true then some (some x) else none
    | none => none
  | .lreturn, 1, [x] => if m_ret M = some .long ∧ ai_cat x = 2 then some (some x) else none
  | .areturn, 1, [x] => match m_ret M with
    | some (.object _) => if ai_cat x = 3 then some (some x) else none
    | _ => none
  | .return_, 1, [] => if m_ret M = none then some none else none
  | _, _, _ => none
def ai_th (d : Nat) (M : AM) (i : Instr) (len : Nat) (aux : List Nat) (st : List AV) : Option Nat := match i, len, aux with
  | .new _, 3, [n, _, _, _, _] => if 6 ≤ d ∧ m_hh M = [] ∧ (st.map ai_wd).sum ≤ 8 then some n else none
  | _, _, _ => none
def ai_hnd (pc E : Nat) : List (Nat × Nat × Nat × Nat) → List (Nat × Nat) → Option Nat
  | q :: hh, x :: hx => if q.1 ≤ pc ∧ pc < q.2.1 then (if x.1 = E then some q.2.2.1 else ai_hnd pc E hh hx) else ai_hnd pc E hh hx
  | _, _ => none
def ai_args : Nat → List AV → ALo
  | _, [] => []
  | i, v :: vs => (i, v) :: ai_args (if ai_wd v = 2 then i + 2 else i + 1) vs
abbrev AR : Type := (Option AV ⊕ Nat) × List AC × Nat × Nat
def ai_add (c s : Nat) (r : Option AR) : Option AR := match r with
  | some q => some (q.1, q.2.1, c + q.2.2.1, s + q.2.2.2)
  | none => none
abbrev AIH : Type := Option (Nat × (Nat → AV)) → Nat → AM → Nat → ALo → List AV → List AC → Option AR
/-- answers that are known beforehand -/
abbrev AXT : Type := Nat → AM → List AV → List AC → Option AR
def ai_body (ext : AXT) (mt : List AM) (op : Option Int32) (ih : AIH) (sc : Option (Nat × (Nat → AV))) (d : Nat) (M : AM) (pc : Nat) (lo : ALo) (st : List AV) (σ : List AC) : Option AR :=
  match (m_code M).find? (fun q => q.1 == pc) with
  | none => none
  | some q =>
    match ai_pu op (m_L M) q.2.1 q.2.2.1 pc lo st with
    | some r => ih sc d M r.1 r.2.1 r.2.2 σ
    | none =>
    match ai_h1 q.2.1 q.2.2.1 q.2.2.2 st σ with
    | some st' => ih sc d M (pc + q.2.2.1) lo st' σ
    | none =>
    match ai_h2 (decide (m_kind M = 2)) q.2.1 q.2.2.1 q.2.2.2 st σ with
    | some r => ih sc d M (pc + q.2.2.1) lo r.1 r.2
    | none =>
    match ai_h3 q.2.1 q.2.2.1 q.2.2.2 st σ with
    | some r => ai_add 1 r.2.2 (ih sc d M (pc + q.2.2.1) lo (.inr (.inr (.inr (.inl (some σ.length)))) :: r.1) (σ ++ [r.2.1]))
    | none =>
    match ai_sc sc q.2.1 q.2.2.1 st with
    | some st' => ih sc d M (pc + q.2.2.1) lo st' σ
    | none =>
    match ai_ret M q.2.1 q.2.2.1 st with
    | some v => some (.inl v, σ, 0, 0)
    | none =>
    match ai_th d M q.2.1 q.2.2.1 q.2.2.2 st with
    | some n => some (.inr n, σ, 1, 6)
    | none =>
    match ai_oi q.2.1 q.2.2.1 q.2.2.2 st with
    | some st' => if 1 ≤ d then ih sc d M (pc + q.2.2.1) lo st' σ else none
    | none =>
    match ai_call mt q.2.1 q.2.2.1 q.2.2.2 st σ with
    | none => none
    | some r =>
      match d with
      | 0 => none
      | d' + 1 =>
        if ((r.2.1).map ai_wd).sum ≤ m_L r.1 then
          match ai_or (ext d' r.1 r.2.1 σ) (ih none d' r.1 0 (ai_args 0 r.2.1) [] σ) with
          | none => none
          | some (.inl v, σ', dc, ds) => ai_add dc ds (ih sc (d' + 1) M (pc + q.2.2.1) lo (v.toList ++ r.2.2) σ')
          | some (.inr n, σ', dc, ds) =>
            if m_kind r.1 = 2 then none else
            match ai_hnd pc n (m_hh M) (m_hx M) with
            | some h => ai_add dc ds (ih sc (d' + 1) M h lo [.inr (.inr (.inr (.inr 0)))] σ')
            | none => if m_hh M = [] then some (.inr n, σ', dc, ds) else none
        else none
def ai_run (ext : AXT) (mt : List AM) (op : Option Int32) (fuel : Nat) : AIH := Nat.rec (motive := fun _ => AIH) (fun _ _ _ _ _ _ _ => none) (fun _ ih => ai_body ext mt op ih) fuel
