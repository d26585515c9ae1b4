/-! ===== the run's law over the machine ===== -/
def ai_O (E : AE) (ws : va_W) (o : Option AV) (v : Option Value) : Prop := match o, v with
  | none, none => True
  | some a, some x => ai_V E ws a x
  | _, _ => False
def ai_Ev (E : AE) (D : va_G) (σ : List AC) (ws0 : va_W) (A : Nat → Prop) (st t : State) (ws : va_W) : Prop := ai_W E t σ ws ∧ ai_Ext ws0 ws ∧ va_P D vwCl ws t.heap ∧ va_D A ws ∧ va_F A st t
def ai_Q (E : AE) (D : va_G) (o : Option AV ⊕ Nat) (σ : List AC) (ws0 : va_W) (A : Nat → Prop) : Array Value → State → Outcome → State → Prop := fun _ st oc t => ∃ (ov : Option AV) (v : Option Value) (ws : va_W), o = .inl ov ∧ oc = .returned v ∧ ai_O E ws ov v ∧ ai_Ev E D σ ws0 A st t ws
def ai_X (E : AE) (D : va_G) (o : Option AV ⊕ Nat) (σ : List AC) (ws0 : va_W) (A : Nat → Prop) : String → State → State → Prop := fun N st t => ∃ (n : Nat) (ws : va_W), o = .inr n ∧ N = ax_n n ∧ ai_Ev E D σ ws0 A st t ws
def ai_G (D : va_G) (s : State) : Prop := va_K D vwCl [] s ∧ (∀ C : String, Cond.arrayOver (.object C) ∈ lw_tbl → va_AO C s) ∧ (∀ w, w ∈ lw_tbl → ax_kw w = true → va_Nw w s) ∧ ∀ a b : Nat, a < 5 → b < 5 → a ≠ b → va_Nc (ax_n a) (ax_n b) s
def ai_Z (A : Nat → Prop) (s : State) (H : Heap) : Prop := vx_Zq Bundle.tN "UNASSIGNED_STACK" Bundle.steD A s H ∧ vx_Zq Bundle.tN "SUPPRESSED_SENTINEL" Bundle.listD A s H
theorem ax_kw_on {w : Cond} (h : ax_kw w = true) : w.onTables = true := by
  unfold ax_kw at h
  split at h <;> first | rfl | cases h
theorem ax_kw_warm {w : Cond} (h : ax_kw w = true) {s U : State} (hW : s.WarmedH U.vm) (k : va_Nw w s) : va_Nw w U := by
  unfold ax_kw at h
  split at h
  · exact va_Nw.warmD hW k
  · exact va_Nw.warmC hW k
  · exact va_Nw.warmM hW k
  · cases h
theorem ai_G.warm {D : va_G} {s U : State} (hW : s.WarmedH U.vm) (h : ai_G D s) : ai_G D U :=
  ⟨va_K.moved hW.alike h.1, fun C hC => (h.2.1 C hC).moved hW.alike, fun w hw hk => ax_kw_warm hk hW (h.2.2.1 w hw hk), fun a b ha hb hn => (h.2.2.2 a b ha hb hn).moved hW.alike⟩
theorem ai_G.same {D : va_G} {s U : State} (e : s.vm = U.vm) (h : ai_G D s) : ai_G D U :=
  ⟨va_K.moved (by rw [e]; exact Vm.Alike.refl _) h.1, fun C hC => (h.2.1 C hC).moved (by rw [e]; exact Vm.Alike.refl _), fun w hw hk => va_Nw.same (ax_kw_on hk) e (h.2.2.1 w hw hk), fun a b ha hb hn => (h.2.2.2 a b ha hb hn).moved (by rw [e]; exact Vm.Alike.refl _)⟩
theorem ai_Z.moved {A : Nat → Prop} {s U : State} {H : Heap} (e : s.vm.Alike U.vm) (h : ai_Z A s H) : ai_Z A U H := ⟨h.1.moved e, h.2.moved e⟩
theorem ai_Z.kept {A : Nat → Prop} {s : State} {H H1 : Heap} (h : ai_Z A s H) (k : ∀ a : Nat, a < H.size → ¬ A a → H1[a]? = H[a]?) : ai_Z A s H1 := ⟨h.1.kept k, h.2.kept k⟩
theorem ai_Z.narrow {A B : Nat → Prop} {s : State} {H : Heap} (h : ai_Z A s H) (k : ∀ q, B q → A q) : ai_Z B s H := ⟨h.1.narrow k, h.2.narrow k⟩
theorem m_G_in {w : Cond} (h : w ∈ lw_tbl) (g : goodWord w = true) : w ∈ m_G := List.mem_filter.mpr ⟨h, g⟩
theorem m_G_of {w : Cond} (h : w ∈ m_G) : w ∈ lw_tbl ∧ goodWord w = true := List.mem_filter.mp h
theorem m_good {ws : List Cond} (h : ∀ w ∈ ws, w ∈ m_G) : GoodIn m_G ws := fun w hw => ⟨h w hw, good_of_word (m_G_of (h w hw)).2⟩
/-- the frame of a method that is walked -/
def ai_Fr (M : AM) (D : va_G) (l : Launch) (p : Program) (s : State) (m : MethodId) (args : Array Value) (meth : Method) (c : Code) : Prop :=
  p.tables.exec = Jvm.exec ∧ c.code = m_cc M ∧ c.maxLocals = m_L M ∧ s.vm.findClass (m_own M) = some m.cls ∧ meth.sig.returnType = m_ret M ∧ meth.locks = false ∧ (m_kind M = 2 → meth.name = "<init>") ∧ c.exceptionTable.toList = tableOf (m_hh M) ∧ (∀ w, w ∈ lw_tbl → goodWord w = true → w.before args s = true) ∧ ai_G D s ∧ l.stackTraces = false
def ai_Pc (D : va_G) (E : AE) (σ : List AC) (ws : va_W) (sz : Nat) (av : List Value) : Array Value → State → Prop := va_Pc av (fun U => U.heap.size = sz ∧ ai_W E U σ ws ∧ va_P D vwCl ws U.heap ∧ va_D (fun _ => True) ws ∧ ai_G D U ∧ ai_Z (va_A ws sz) U U.heap)
def ai_rm (d dc ds : Nat) : Room := { frames := d, cells := dc, slots := ds, locals := 36 * d }
/-- a method's contract, out of a run -/
def ai_CT (l : Launch) (D : va_G) (E : AE) (M : AM) (as : List AV) (σ : List AC) (d : Nat) (r : AR) : Prop :=
  ∀ (ws : va_W) (sz : Nat) (av : List Value), ai_S E ws as av → vx_Met l (m_y M) (m_ws M) (ai_rm d r.2.2.1 r.2.2.2) (ai_Pc D E σ ws sz av) (ai_Q E D r.1 r.2.1 ws (va_A ws sz)) (ai_X E D r.1 r.2.1 ws (va_A ws sz)) r.2.2.1 r.2.2.2 (va_A ws sz)
theorem ai_Pc_blind {D : va_G} {E : AE} {σ : List AC} {ws : va_W} {sz : Nat} {av : List Value} : FrameBlind (ai_Pc D E σ ws sz av) := by
  intro a U g mk h
  obtain ⟨h0, h1, h2, h3, h4, h5, h6⟩ := h
  exact ⟨h0, h1, h2.moved (Vm.Alike.refl U.vm), h3, h4, h5.same (U := U.calling g mk a) (show U.vm = (U.calling g mk a).vm from rfl), h6.moved (Vm.Alike.refl U.vm)⟩
theorem ai_S_app {E : AE} {ws : va_W} : ∀ {a b : List AV} {x y : List Value}, ai_S E ws a x → ai_S E ws b y → ai_S E ws (a ++ b) (x ++ y)
  | [], _, [], _, _, h => h
  | [], _, _ :: _, _, h, _ => h.elim
  | _ :: _, _, [], _, h, _ => h.elim
  | _ :: _, _, _ :: _, _, h, k => ⟨h.1, ai_S_app h.2 k⟩
theorem ai_S_rev {E : AE} {ws : va_W} : ∀ {a : List AV} {x : List Value}, ai_S E ws a x → ai_S E ws a.reverse x.reverse
  | [], [], h => h
  | [], _ :: _, h => h.elim
  | _ :: _, [], h => h.elim
  | _ :: _, _ :: _, h => by
    rw [List.reverse_cons, List.reverse_cons]
    exact ai_S_app (ai_S_rev h.2) ⟨h.1, trivial⟩
theorem ai_S_take {E : AE} {ws : va_W} : ∀ (n : Nat) {a : List AV} {x : List Value}, ai_S E ws a x → ai_S E ws (a.take n) (x.take n)
  | 0, _, _, _ => trivial
  | _ + 1, [], [], h => h
  | _ + 1, [], _ :: _, h => h.elim
  | _ + 1, _ :: _, [], h => h.elim
  | n + 1, _ :: _, _ :: _, h => ⟨h.1, ai_S_take n h.2⟩
theorem ai_S_drop {E : AE} {ws : va_W} : ∀ (n : Nat) {a : List AV} {x : List Value}, ai_S E ws a x → ai_S E ws (a.drop n) (x.drop n)
  | 0, _, _, h => h
  | _ + 1, [], [], h => h
  | _ + 1, [], _ :: _, h => h.elim
  | _ + 1, _ :: _, [], h => h.elim
  | n + 1, _ :: _, _ :: _, h => ai_S_drop n h.2
theorem ai_S_sum {E : AE} {ws : va_W} : ∀ {a : List AV} {x : List Value}, ai_S E ws a x → (x.map fun v => v.category).sum = (a.map ai_wd).sum
  | [], [], _ => rfl
  | [], _ :: _, h => h.elim
  | _ :: _, [], h => h.elim
  | _ :: _, _ :: _, h => by rw [List.map_cons, List.map_cons, List.sum_cons, List.sum_cons, ai_S_sum h.2, ai_V_wd h.1]
theorem ai_args_ok {E : AE} {ws : va_W} : ∀ (i : Nat) {a : List AV} {x : List Value}, ai_S E ws a x → ai_L E ws (ai_args i a) (lv_args i x)
  | _, [], [], _ => trivial
  | _, [], _ :: _, h => h.elim
  | _, _ :: _, [], h => h.elim
  | i, a :: as, v :: vs, h => by
    refine ⟨⟨rfl, h.1⟩, ?_⟩
    rw [show v.category = ai_wd a from ai_V_wd h.1]
    exact ai_args_ok _ h.2
theorem ai_sl_len : ∀ (x : List Value), (lg_sl x).length = (x.map fun v => v.category).sum
  | [] => rfl
  | v :: x => by
    have e : lg_sl (v :: x) = (if v.category = 2 then [.val v, .second] else [.val v]) ++ lg_sl x := rfl
    rw [e, List.length_append, ai_sl_len x, List.map_cons, List.sum_cons]
    rcases lv_cat v with h | h
    · rw [if_neg (by omega), h]; rfl
    · rw [if_pos h, h]; rfl
theorem ai_hnd_ok {own : String} {pc E : Nat} {args : Array Value} {s : State} (hT : ∀ w, w ∈ lw_tbl → goodWord w = true → w.before args s = true) (hN : ∀ a b : Nat, a < 5 → b < 5 → a ≠ b → va_Nc (ax_n a) (ax_n b) s) (hE : E < 5) : ∀ {hh : List (Nat × Nat × Nat × Nat)} {hx : List (Nat × Nat)} {h : Nat}, ai_ckh own hh hx = true → ai_hnd pc E hh hx = some h →
    ∃ (pre : List ExceptionTableEntry) (x : ExceptionTableEntry) (suf : List ExceptionTableEntry), tableOf hh = pre ++ x :: suf ∧ (∀ z ∈ pre, covers z pc = false ∨ (z.catchType ≠ 0 ∧ ∃ nm : String, (Cond.classLink own z.catchType nm).before args s = true ∧ va_Nc (ax_n E) nm s)) ∧ covers x pc = true ∧ x.catchType ≠ 0 ∧ (Cond.classLink own x.catchType (ax_n E)).before args s = true ∧ x.handlerPc = h
  | [], _, _, _, k => by cases k
  | _ :: _, [], _, _, k => by cases k
  | q :: hh, x :: hx, h, c, k => by
    have c : (decide (x.1 < 5) && decide (q.2.2.2 ≠ 0) && ai_w x.2 (.classLink own q.2.2.2 (ax_n x.1)) && ai_ckh own hh hx) = true := c
    simp only [Bool.and_eq_true, decide_eq_true_eq] at c
    obtain ⟨⟨⟨c1, c2⟩, c3⟩, c4⟩ := c
    have hl := hT _ (ai_w_ok c3).1 (ai_w_ok c3).2
    have k : (if q.1 ≤ pc ∧ pc < q.2.1 then (if x.1 = E then some q.2.2.1 else ai_hnd pc E hh hx) else ai_hnd pc E hh hx) = some h := k
    have hcov : covers ⟨q.1, q.2.1, q.2.2.1, q.2.2.2⟩ pc = decide (q.1 ≤ pc ∧ pc < q.2.1) := by simp [covers]
    by_cases hc : q.1 ≤ pc ∧ pc < q.2.1
    · rw [if_pos hc] at k
      by_cases he : x.1 = E
      · rw [if_pos he] at k
        cases k
        exact ⟨[], ⟨q.1, q.2.1, q.2.2.1, q.2.2.2⟩, tableOf hh, rfl, (fun z hz => by cases hz), (by rw [hcov]; exact decide_eq_true hc), c2, (by rw [← he]; exact hl), rfl⟩
      · rw [if_neg he] at k
        obtain ⟨pre, y, suf, e1, e2, e3⟩ := ai_hnd_ok hT hN hE c4 k
        refine ⟨⟨q.1, q.2.1, q.2.2.1, q.2.2.2⟩ :: pre, y, suf, by show _ :: tableOf hh = _; rw [e1]; rfl, fun z hz => ?_, e3⟩
        rcases List.mem_cons.mp hz with rfl | hz
        · exact Or.inr ⟨c2, ax_n x.1, hl, hN E x.1 hE c1 (fun z => he z.symm)⟩
        · exact e2 z hz
    · rw [if_neg hc] at k
      obtain ⟨pre, y, suf, e1, e2, e3⟩ := ai_hnd_ok hT hN hE c4 k
      refine ⟨⟨q.1, q.2.1, q.2.2.1, q.2.2.2⟩ :: pre, y, suf, by show _ :: tableOf hh = _; rw [e1]; rfl, fun z hz => ?_, e3⟩
      rcases List.mem_cons.mp hz with rfl | hz
      · exact Or.inl (by rw [hcov]; exact decide_eq_false hc)
      · exact e2 z hz
theorem ai_cast : ∀ n, n < 5 → Cond.castable (ax_n n) (ax_n n) ∈ lw_tbl := by decide +kernel
/-- a method that never throws -/
theorem ai_toMet {l : Launch} {y : MethodName} {ws : List Cond} {rm : Room} {Pc : Array Value → State → Prop} {Qc : Array Value → State → Outcome → State → Prop} {XC : String → State → State → Prop} {mc ms : Nat} {free : Addr → Prop} (h : vx_Met l y ws rm Pc Qc XC mc ms free) (hX : ∀ N st t, ¬ XC N st t) : Met l y ws rm Pc Qc mc ms free := by
  intro p e ha hc hk s m args below hf happ hP hK
  obtain ⟨n, o, h1, h2, h3, hQ⟩ := h p e ha hc hk s m args below hf happ hP hK
  refine ⟨n, o, h1, h2, h3, ?_⟩
  rcases hQ with hQ | ⟨q, -, E, ce, L, hx, -⟩
  · exact hQ
  · exact absurd hx (hX _ _ _)
theorem ai_mono {σ : List AC} {ws : va_W} {D : va_G} {A : Nat → Prop} {H : Heap} {s : State} {locs : List Loc} (hD : va_D A ws) (hS : va_S A s.heap H locs) (hA : ∀ q, s.heap.size ≤ q → A q) : ∀ q, va_A ws H.size q → A q := by
  intro q h
  rcases h with ⟨k, e, h⟩ | h
  · exact hD.2 k (q, e) h
  · exact hA q (Nat.le_trans hS.1 h)
