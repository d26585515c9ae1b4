/-! ===== the abstract world, and what it stands for ===== -/
def ai_cl (ci : Nat) : String := (vwCl.getD ci ("", fun _ => ("", "", "", false), 0)).1
def ai_ty (t : Nat) : FieldType := match t with
  | 0 => .byte
  | 1 => .int
  | 2 => .long
  | 3 => .boolean
  | n + 4 => .object (ai_cl n)
def ai_kd (t : Nat) : Nat := match t with
  | 0 => 0
  | 1 => 0
  | 2 => 1
  | 3 => 0
  | _ + 4 => 2
def ai_A (E : AE) (ws : va_W) (n k : Nat) (f : Nat → AV) (x : (Nat → Int32) ⊕ (Nat → Int64) ⊕ (Nat → UInt32) ⊕ (Nat → UInt64) ⊕ (Nat → Option Nat)) : Prop := match k, x with
  | 0, .inl g => ∀ j, j < n → ai_V E ws (f j) (.int (g j))
  | 1, .inr (.inl g) => ∀ j, j < n → ai_V E ws (f j) (.long (g j))
  | 2, .inr (.inr (.inr (.inr g))) => ∀ j, j < n → ai_V E ws (f j) (va_rf (g j))
  | _, _ => False
def ai_C (E : AE) (s : State) (ws : va_W) (e : AC) (x : va_E) : Prop := match e, x with
  | .inl a, .inl b => a.2.1 = b.2.1 ∧ ArrOfT s b.1 (ai_ty a.1) ∧ va_RA s b.1 (ai_ty a.1) ∧ ai_A E ws a.2.1 (ai_kd a.1) a.2.2 b.2.2
  | .inr a, .inr b => a.1 = b.1 ∧ ai_S E ws a.2 b.2
  | _, _ => False
def ai_W (E : AE) (s : State) (σ : List AC) (ws : va_W) : Prop := σ.length = ws.length ∧ ∀ (i : Nat) (e : AC) (q : Nat × va_E), σ[i]? = some e → ws[i]? = some q → ai_C E s ws e q.2
theorem ai_A.mono {E : AE} {ws ws' : va_W} (h : ai_Ext ws ws') {n k : Nat} {f : Nat → AV} {x : (Nat → Int32) ⊕ (Nat → Int64) ⊕ (Nat → UInt32) ⊕ (Nat → UInt64) ⊕ (Nat → Option Nat)} (a : ai_A E ws n k f x) : ai_A E ws' n k f x := by
  unfold ai_A at a ⊢
  split at a
  · exact fun j hj => (a j hj).mono h
  · exact fun j hj => (a j hj).mono h
  · exact fun j hj => (a j hj).mono h
  · exact a.elim
theorem ai_C.mono {E : AE} {s : State} {ws ws' : va_W} (h : ai_Ext ws ws') {e : AC} {x : va_E} (a : ai_C E s ws e x) : ai_C E s ws' e x := by
  unfold ai_C at a ⊢
  split at a
  · exact ⟨a.1, a.2.1, a.2.2.1, a.2.2.2.mono h⟩
  · exact ⟨a.1, a.2.mono h⟩
  · exact a.elim
theorem ai_C.moved {E : AE} {s u : State} {ws : va_W} (h : s.vm.Alike u.vm) {e : AC} {x : va_E} (a : ai_C E s ws e x) : ai_C E u ws e x := by
  unfold ai_C at a ⊢
  split at a
  · exact ⟨a.1, arrOfT_moved h a.2.1, a.2.2.1.moved h, a.2.2.2⟩
  · exact a
  · exact a.elim
theorem ai_W.moved {E : AE} {s u : State} {σ : List AC} {ws : va_W} (h : s.vm.Alike u.vm) (a : ai_W E s σ ws) : ai_W E u σ ws := ⟨a.1, fun i e q h1 h2 => (a.2 i e q h1 h2).moved h⟩
theorem ai_W.get {E : AE} {s : State} {σ : List AC} {ws : va_W} (a : ai_W E s σ ws) {i : Nat} {e : AC} (h : σ[i]? = some e) : ∃ q, ws[i]? = some q ∧ ai_C E s ws e q.2 := by
  have hl : i < ws.length := by rw [← a.1]; exact (List.getElem?_eq_some_iff.mp h).1
  exact ⟨ws[i], List.getElem?_eq_getElem hl, a.2 i e _ h (List.getElem?_eq_getElem hl)⟩
theorem ai_ad_set {ws : va_W} {i a : Nat} {x0 x : va_E} (h : ws[i]? = some (a, x0)) (j : Nat) : ai_ad (ws.set i (a, x)) j = ai_ad ws j := by
  unfold ai_ad
  rw [List.getElem?_set]
  by_cases e : i = j
  · subst e
    rw [if_pos rfl, if_pos (List.getElem?_eq_some_iff.mp h).1, h]
    rfl
  · rw [if_neg e]
theorem ai_Ext.set {ws : va_W} {i a : Nat} {x0 x : va_E} (h : ws[i]? = some (a, x0)) : ai_Ext ws (ws.set i (a, x)) := fun j b hb => by rw [ai_ad_set h]; exact hb
theorem ai_Ext.push {ws : va_W} {q : Nat × va_E} : ai_Ext ws (ws ++ [q]) := fun j b hb => by
  unfold ai_ad at hb ⊢
  cases hw : ws[j]? with
  | none => rw [hw] at hb; cases hb
  | some y =>
    rw [hw] at hb
    rw [List.getElem?_append_left (List.getElem?_eq_some_iff.mp hw).1, hw]
    exact hb
theorem ai_W.set {E : AE} {s : State} {σ : List AC} {ws : va_W} (w : ai_W E s σ ws) {i a : Nat} {x0 x : va_E} (h : ws[i]? = some (a, x0)) {e : AC} (c : ai_C E s (ws.set i (a, x)) e x) : ai_W E s (σ.set i e) (ws.set i (a, x)) := by
  refine ⟨by rw [List.length_set, List.length_set]; exact w.1, fun j e' q h1 h2 => ?_⟩
  rw [List.getElem?_set] at h1 h2
  by_cases ej : i = j
  · subst ej
    rw [if_pos rfl] at h1 h2
    split at h1
    · cases h1
      split at h2
      · cases h2; exact c
      · cases h2
    · cases h1
  · rw [if_neg ej] at h1 h2
    exact (w.2 j e' q h1 h2).mono (ai_Ext.set h)
theorem ai_W.push {E : AE} {s : State} {σ : List AC} {ws : va_W} (w : ai_W E s σ ws) {q : Nat × va_E} {e : AC} (c : ai_C E s (ws ++ [q]) e q.2) : ai_W E s (σ ++ [e]) (ws ++ [q]) := by
  refine ⟨by rw [List.length_append, List.length_append, w.1]; rfl, fun j e' q' h1 h2 => ?_⟩
  by_cases hj : j < σ.length
  · rw [List.getElem?_append_left hj] at h1
    rw [List.getElem?_append_left (by rw [← w.1]; exact hj)] at h2
    exact (w.2 j e' q' h1 h2).mono ai_Ext.push
  · rw [List.getElem?_append_right (by omega)] at h1
    rw [List.getElem?_append_right (by rw [← w.1]; omega)] at h2
    have hz : j - σ.length < 1 := (List.getElem?_eq_some_iff.mp h1).1
    rw [show j - σ.length = 0 by omega] at h1
    rw [← w.1, show j - σ.length = 0 by omega] at h2
    cases h1
    cases h2
    exact c
theorem ai_ad_push {ws : va_W} {q : Nat × va_E} : ai_ad (ws ++ [q]) ws.length = some q.1 := by
  unfold ai_ad
  rw [List.getElem?_append_right (Nat.le_refl _), Nat.sub_self]
  rfl
/-! parts of a value -/
def ai_rf : AV → Option Nat
  | .inr (.inr (.inr (.inl (some i)))) => some i
  | _ => none
theorem ai_rf_ok {E : AE} {ws : va_W} {x : AV} {i : Nat} (h : ai_rf x = some i) {v : Value} (hv : ai_V E ws x v) : ∃ a, v = .ref a ∧ ai_ad ws i = some a := by
  unfold ai_rf at h
  split at h
  · cases h; exact hv
  · cases h
def ai_ob (σ : List AC) (x : AV) (ci : Nat) : Option (Nat × List AV) := match ai_rf x with
  | some i => match σ[i]? with
    | some (.inr o) => if o.1 = ci then some (i, o.2) else none
    | _ => none
  | none => none
theorem ai_ob_ok {E : AE} {s : State} {σ : List AC} {ws : va_W} {x : AV} {ci i : Nat} {fs : List AV} (h : ai_ob σ x ci = some (i, fs)) (w : ai_W E s σ ws) {v : Value} (hv : ai_V E ws x v) :
    ∃ a vs, v = .ref a ∧ ws[i]? = some (a, .inr (ci, vs)) ∧ ai_S E ws fs vs := by
  unfold ai_ob at h
  split at h
  · next j hj =>
    obtain ⟨a, rfl, had⟩ := ai_rf_ok hj hv
    split at h
    · next o ho =>
      split at h
      · next he =>
        cases h
        obtain ⟨q, hq, hc⟩ := w.get ho
        unfold ai_ad at had
        rw [hq] at had
        obtain ⟨q1, q2⟩ := q
        have had : q1 = a := Option.some.inj had
        subst had
        match q2, hc with
        | .inl b, hc => exact hc.elim
        | .inr b, hc =>
          obtain ⟨h1, h2⟩ := hc
          obtain ⟨b1, b2⟩ := b
          have h1 : o.1 = b1 := h1
          subst h1
          exact ⟨_, b2, rfl, by rw [hq, he], h2⟩
      · cases h
    · cases h
  · cases h
def ai_ar (σ : List AC) (x : AV) : Option (Nat × Nat × Nat × (Nat → AV)) := match ai_rf x with
  | some i => match σ[i]? with
    | some (.inl o) => some (i, o)
    | _ => none
  | none => none
theorem ai_ar_ok {E : AE} {s : State} {σ : List AC} {ws : va_W} {x : AV} {i t n : Nat} {f : Nat → AV} (h : ai_ar σ x = some (i, t, n, f)) (w : ai_W E s σ ws) {v : Value} (hv : ai_V E ws x v) :
    ∃ a cA y, v = .ref a ∧ ws[i]? = some (a, .inl (cA, n, y)) ∧ ArrOfT s cA (ai_ty t) ∧ va_RA s cA (ai_ty t) ∧ ai_A E ws n (ai_kd t) f y := by
  unfold ai_ar at h
  split at h
  · next j hj =>
    obtain ⟨a, rfl, had⟩ := ai_rf_ok hj hv
    split at h
    · next o ho =>
      cases h
      obtain ⟨q, hq, hc⟩ := w.get ho
      unfold ai_ad at had
      rw [hq] at had
      obtain ⟨q1, q2⟩ := q
      have had : q1 = a := Option.some.inj had
      subst had
      match q2, hc with
      | .inr b, hc => exact hc.elim
      | .inl b, hc =>
        obtain ⟨h1, h2, h3, h4⟩ := hc
        obtain ⟨b1, b2, b3⟩ := b
        have h1 : n = b2 := h1
        subst h1
        exact ⟨_, b1, b3, rfl, hq, h2, h3, h4⟩
    · cases h
  · cases h
def ai_ix (x : AV) (n : Nat) : Option Nat := match x with
  | .inl c => if c < 0 then none else if n ≤ c.toNatClampNeg then none else some c.toNatClampNeg
  | _ => none
theorem ai_ix_ok {E : AE} {ws : va_W} {x : AV} {n j : Nat} (h : ai_ix x n = some j) {v : Value} (hv : ai_V E ws x v) : ∃ c : Int32, v = .int c ∧ vp_in c n ∧ j = c.toNatClampNeg := by
  unfold ai_ix at h
  split at h
  · next c =>
    split at h
    · cases h
    · next h1 =>
      split at h
      · cases h
      · next h2 =>
        cases h
        exact ⟨c, hv, fun q => q.elim h1 h2, rfl⟩
  · cases h
theorem ai_S_get {E : AE} {ws : va_W} : ∀ {fs : List AV} {vs : List Value} {k : Nat} {a : AV}, ai_S E ws fs vs → fs[k]? = some a → ∃ v, vs[k]? = some v ∧ ai_V E ws a v
  | [], _, _, _, _, h => by cases h
  | _ :: _, [], _, _, h, _ => h.elim
  | _ :: _, v :: _, 0, _, h, hk => by cases hk; exact ⟨v, rfl, h.1⟩
  | _ :: _, _ :: _, k + 1, _, h, hk => ai_S_get (k := k) h.2 hk
theorem ai_S_len {E : AE} {ws : va_W} : ∀ {fs : List AV} {vs : List Value}, ai_S E ws fs vs → fs.length = vs.length
  | [], [], _ => rfl
  | [], _ :: _, h => h.elim
  | _ :: _, [], h => h.elim
  | _ :: _, _ :: _, h => by rw [List.length_cons, List.length_cons, ai_S_len h.2]
theorem ai_S_set {E : AE} {ws : va_W} {a : AV} {v : Value} (hv : ai_V E ws a v) : ∀ {fs : List AV} {vs : List Value} {k : Nat}, ai_S E ws fs vs → ai_S E ws (fs.set k a) (vs.set k v)
  | [], [], _, h => h
  | [], _ :: _, _, h => h.elim
  | _ :: _, [], _, h => h.elim
  | _ :: _, _ :: _, 0, h => ⟨hv, h.2⟩
  | _ :: _, _ :: _, k + 1, h => ⟨h.1, ai_S_set hv (k := k) h.2⟩
/-! the classes' tables, by number -/
def ai_tf (ci : Nat) : Nat → FieldType := match ci with
  | 0 => tyX0
  | 1 => tyX1
  | 2 => tyX2
  | 3 => tyX3
  | 4 => tyX4
  | 5 => tyX5
  | 6 => tyX6
  | 7 => tyX7
  | 8 => tyX8
  | 9 => tyX9
  | 10 => tyX10
  | 11 => tyX11
  | _ => tyX12
theorem ai_in0 : ∀ w ∈ u_ws RX0 TX0 2, w ∈ lw_tbl := by decide +kernel
theorem ai_in1 : ∀ w ∈ u_ws RX1 TX1 2, w ∈ lw_tbl := by decide +kernel
theorem ai_in2 : ∀ w ∈ u_ws RX2 TX2 1, w ∈ lw_tbl := by decide +kernel
theorem ai_in3 : ∀ w ∈ u_ws RX3 TX3 7, w ∈ lw_tbl := by decide +kernel
theorem ai_in4 : ∀ w ∈ u_ws RX4 TX4 1, w ∈ lw_tbl := by decide +kernel
theorem ai_in5 : ∀ w ∈ u_ws RX5 TX5 8, w ∈ lw_tbl := by decide +kernel
theorem ai_in6 : ∀ w ∈ u_ws RX6 TX6 6, w ∈ lw_tbl := by decide +kernel
theorem ai_in7 : ∀ w ∈ u_ws RX7 TX7 5, w ∈ lw_tbl := by decide +kernel
theorem ai_in8 : ∀ w ∈ u_ws RX8 TX8 3, w ∈ lw_tbl := by decide +kernel
theorem ai_in9 : ∀ w ∈ u_ws RX9 TX9 6, w ∈ lw_tbl := by decide +kernel
theorem ai_in10 : ∀ w ∈ u_ws RX10 TX10 2, w ∈ lw_tbl := by decide +kernel
theorem ai_in11 : ∀ w ∈ u_ws RX11 TX11 6, w ∈ lw_tbl := by decide +kernel
theorem ai_in12 : ∀ w ∈ u_ws RX12 TX12 40, w ∈ lw_tbl := by decide +kernel
theorem ai_u_good (C : String) (T : u_T) (N : Nat) : ∀ w ∈ u_ws C T N, goodWord w = true := by
  intro w hw
  obtain ⟨k, -, rfl⟩ := List.mem_map.mp hw
  unfold u_lay
  split <;> rfl
/-- what is needed of a class's fields -/
def ai_F (ci : Nat) (r : vw_C) : Prop := (∀ k, k < r.2.2 → parseFieldDescriptor (r.2.1 k).2.2.1 = some (ai_tf ci k)) ∧ (∀ a, a < r.2.2 → ∀ b, b < r.2.2 → a ≠ b → (r.2.1 a).2.1 ≠ (r.2.1 b).2.1) ∧ ∀ w ∈ u_ws r.1 r.2.1 r.2.2, w ∈ lw_tbl
theorem ai_F_all : ∀ (ci : Nat) (r : vw_C), vwCl[ci]? = some r → ai_F ci r
  | 0, _, h => by cases h; exact ⟨tyX0_ok, nmX0, ai_in0⟩
  | 1, _, h => by cases h; exact ⟨tyX1_ok, nmX1, ai_in1⟩
  | 2, _, h => by cases h; exact ⟨tyX2_ok, nmX2, ai_in2⟩
  | 3, _, h => by cases h; exact ⟨tyX3_ok, nmX3, ai_in3⟩
  | 4, _, h => by cases h; exact ⟨tyX4_ok, nmX4, ai_in4⟩
  | 5, _, h => by cases h; exact ⟨tyX5_ok, nmX5, ai_in5⟩
  | 6, _, h => by cases h; exact ⟨tyX6_ok, nmX6, ai_in6⟩
  | 7, _, h => by cases h; exact ⟨tyX7_ok, nmX7, ai_in7⟩
  | 8, _, h => by cases h; exact ⟨tyX8_ok, nmX8, ai_in8⟩
  | 9, _, h => by cases h; exact ⟨tyX9_ok, nmX9, ai_in9⟩
  | 10, _, h => by cases h; exact ⟨tyX10_ok, nmX10, ai_in10⟩
  | 11, _, h => by cases h; exact ⟨tyX11_ok, nmX11, ai_in11⟩
  | 12, _, h => by cases h; exact ⟨tyX12_ok, nmX12, ai_in12⟩
  | n + 13, _, h => by simp [vwCl] at h
def ai_df (t : FieldType) : AV := match t with
  | .long => .inr (.inr (.inl (some 0)))
  | .object _ => .inr (.inr (.inr (.inl none)))
  | .array _ => .inr (.inr (.inr (.inl none)))
  | _ => .inl 0
def ai_fd (ci N : Nat) : List AV := (List.range N).map (fun k => ai_df (ai_tf ci k))
def ai_ok (t : FieldType) : Bool := match t with
  | .float => false
  | .double => false
  | _ => true
theorem ai_df_ok {E : AE} {ws : va_W} {t : FieldType} (h : ai_ok t = true) : ai_V E ws (ai_df t) (defaultValue t) := by
  cases t <;> first | rfl | cases h
theorem ai_S_map {E : AE} {ws : va_W} {f : Nat → AV} {g : Nat → Value} : ∀ (l : List Nat), (∀ k ∈ l, ai_V E ws (f k) (g k)) → ai_S E ws (l.map f) (l.map g)
  | [], _ => trivial
  | a :: l, h => ⟨h a List.mem_cons_self, ai_S_map l (fun k hk => h k (List.mem_cons_of_mem _ hk))⟩
def ai_fit (t : FieldType) (a : AV) : Bool := match t with
  | .int => decide (ai_cat a = 1)
  | .long => decide (ai_cat a = 2)
  | .boolean => match ai_iv a with
    | some q => decide (0 ≤ q.1 ∧ q.2 ≤ 1)
    | none => false
  | .object _ => decide (ai_cat a = 3)
  | .array _ => decide (ai_cat a = 3)
  | _ => false
theorem ai_bool {x : Int32} (h0 : 0 ≤ x.toInt) (h1 : x.toInt ≤ 1) : x = 0 ∨ x = 1 := by
  rcases (show x.toInt = 0 ∨ x.toInt = 1 by omega) with h | h
  · exact Or.inl (Int32.toInt_inj.mp h)
  · exact Or.inr (Int32.toInt_inj.mp h)
theorem ai_fit_ok {E : AE} {ws : va_W} {t : FieldType} {a : AV} (h : ai_fit t a = true) {v : Value} (hv : ai_V E ws a v) : narrow t v = v ∧ fits t v = true := by
  unfold ai_fit at h
  split at h
  · obtain ⟨x, rfl⟩ := ai_V_int (of_decide_eq_true h) hv
    exact ⟨rfl, rfl⟩
  · obtain ⟨x, rfl⟩ := ai_V_long (of_decide_eq_true h) hv
    exact ⟨rfl, rfl⟩
  · split at h
    · next q hq =>
      obtain ⟨x, rfl, h1, h2⟩ := ai_iv_ok hq hv
      obtain ⟨g1, g2⟩ := of_decide_eq_true h
      rcases ai_bool (x := x) (by omega) (by omega) with rfl | rfl
      · exact ⟨rfl, rfl⟩
      · exact ⟨rfl, rfl⟩
    · cases h
  · rcases ai_V_ref (of_decide_eq_true h) hv with rfl | ⟨x, rfl⟩
    · exact ⟨rfl, rfl⟩
    · exact ⟨rfl, rfl⟩
  · rcases ai_V_ref (of_decide_eq_true h) hv with rfl | ⟨x, rfl⟩
    · exact ⟨rfl, rfl⟩
    · exact ⟨rfl, rfl⟩
  · cases h
def ai_up (f : Nat → AV) (k : Nat) (a : AV) : Nat → AV := fun j => if j = k then a else f j
def ai_eqV (a b : AV) : Bool := decide (a = b)
def ai_eqL : List AV → List AV → Bool
  | [], [] => true
  | a :: as, b :: bs => ai_eqV a b && ai_eqL as bs
  | _, _ => false
theorem ai_eqL_ok : ∀ {a b : List AV}, ai_eqL a b = true → a = b
  | [], [], _ => rfl
  | [], _ :: _, h => by cases h
  | _ :: _, [], h => by cases h
  | a :: as, b :: bs, h => by
    have h : (ai_eqV a b && ai_eqL as bs) = true := h
    rw [Bool.and_eq_true] at h
    rw [show a = b from of_decide_eq_true h.1, ai_eqL_ok h.2]
def ai_eqA (a b : AC) : Bool := match a, b with
  | .inl x, .inl y => decide (x.1 = y.1) && (decide (x.2.1 = y.2.1) && (List.range x.2.1).all (fun j => ai_eqV (x.2.2 j) (y.2.2 j)))
  | .inr x, .inr y => decide (x.1 = y.1) && ai_eqL x.2 y.2
  | _, _ => false
def ai_eqW : List AC → List AC → Bool
  | [], [] => true
  | a :: σ, b :: τ => ai_eqA a b && ai_eqW σ τ
  | _, _ => false
theorem ai_eqA_ok {E : AE} {s : State} {ws : va_W} {a b : AC} (h : ai_eqA a b = true) {x : va_E} (c : ai_C E s ws a x) : ai_C E s ws b x := by
  unfold ai_eqA at h
  split at h
  · next u v =>
    obtain ⟨u1, u2, u3⟩ := u
    obtain ⟨v1, v2, v3⟩ := v
    simp only [Bool.and_eq_true, decide_eq_true_eq, List.all_eq_true, List.mem_range] at h
    obtain ⟨h1, h2, h3⟩ := h
    have h3 : ∀ j, j < u2 → u3 j = v3 j := fun j hj => of_decide_eq_true (h3 j hj)
    subst h1; subst h2
    match x, c with
    | .inr q, c => exact c.elim
    | .inl q, c =>
      obtain ⟨c1, c2, c3, c4⟩ := c
      refine ⟨c1, c2, c3, ?_⟩
      have c4 : ai_A E ws u2 (ai_kd u1) u3 q.2.2 := c4
      show ai_A E ws u2 (ai_kd u1) v3 q.2.2
      unfold ai_A at c4 ⊢
      split at c4
      · exact fun j hj => by rw [← h3 j hj]; exact c4 j hj
      · exact fun j hj => by rw [← h3 j hj]; exact c4 j hj
      · exact fun j hj => by rw [← h3 j hj]; exact c4 j hj
      · exact c4.elim
  · next u v =>
    obtain ⟨u1, u2⟩ := u
    obtain ⟨v1, v2⟩ := v
    rw [Bool.and_eq_true] at h
    have h1 : u1 = v1 := of_decide_eq_true h.1
    have h2 : u2 = v2 := ai_eqL_ok h.2
    subst h1; subst h2
    exact c
  · cases h
theorem ai_eqW_get : ∀ {σ τ : List AC}, ai_eqW σ τ = true → σ.length = τ.length ∧ ∀ (i : Nat) (b : AC), τ[i]? = some b → ∃ a, σ[i]? = some a ∧ ai_eqA a b = true
  | [], [], _ => ⟨rfl, fun i b h => by cases h⟩
  | [], _ :: _, h => by cases h
  | _ :: _, [], h => by cases h
  | a :: σ, b :: τ, h => by
    have h : (ai_eqA a b && ai_eqW σ τ) = true := h
    rw [Bool.and_eq_true] at h
    obtain ⟨g1, g2⟩ := ai_eqW_get h.2
    refine ⟨by rw [List.length_cons, List.length_cons, g1], fun i c hc => ?_⟩
    match i, hc with
    | 0, hc => cases hc; exact ⟨a, rfl, h.1⟩
    | i + 1, hc => exact g2 i c hc
theorem ai_eqW_ok {E : AE} {s : State} {σ τ : List AC} {ws : va_W} (h : ai_eqW σ τ = true) (w : ai_W E s σ ws) : ai_W E s τ ws := by
  obtain ⟨g1, g2⟩ := ai_eqW_get h
  refine ⟨g1.symm.trans w.1, fun i b q hb hq => ?_⟩
  obtain ⟨a, ha, hab⟩ := g2 i b hb
  exact ai_eqA_ok hab (w.2 i a q ha hq)
theorem ai_in_lt {b : Int32} {n : Nat} (h : vp_in b n) : b.toNatClampNeg < n := Nat.lt_of_not_le (fun z => h (Or.inr z))
