/-! ===== machine B: contracts, loops' heads, the run ===== -/
/-- a loop's head: its place, its locals, its state (the method's names first), the measure, what may still be made, a form by whose sign its states are split -/
abbrev BH : Type := Nat × List (Nat × BV) × BS × Li × Li × Option Li
/-- a contract: the method's number, depth, what it makes, whether unequals are split, whether it is the law; the arguments and the state at the start; what it writes; outcomes; heads; which contracts its calls may use -/
abbrev BT : Type := (Nat × Nat × Nat × Bool × Bool) × (List BV × BS) × List Nat × List BO × List BH × List (Nat × List Nat)
def t_mi (T : BT) : Nat := T.1.1
def t_d (T : BT) : Nat := T.1.2.1
def t_mc (T : BT) : Nat := T.1.2.2.1
def t_sp (T : BT) : Bool := T.1.2.2.2.1
def t_sc (T : BT) : Bool := T.1.2.2.2.2
def t_as (T : BT) : List BV := T.2.1.1
def t_s (T : BT) : BS := T.2.1.2
def t_md (T : BT) : List Nat := T.2.2.1
def t_os (T : BT) : List BO := T.2.2.2.1
def t_hs (T : BT) : List BH := T.2.2.2.2.1
def t_ht (T : BT) : List (Nat × List Nat) := T.2.2.2.2.2
def t_k (T : BT) : Nat := (t_s T).1.length
abbrev BIH : Type := Bool → Nat → BLo → List BV → BS → Li → Bool
def bm_hd (T : BT) (ms : Option Li) (h : BH) (lo : BLo) (st : List BV) (s : BS) (al : Li) : Bool := match st, b_pick lo h.2.1 with
  | [], some as => match bu_all s (li_ids (t_k T)) (h.2.1.map Prod.snd) as (b_rf as) h.2.2.1 with
    | some r => (match li_s r.1 h.2.2.2.1 with
      | some b => (match ms with
        | some m => bs_ge r.2 (li_sh (-1) (li_sub m b))
        | none => true)
      | none => false) && (match li_s r.1 h.2.2.2.2.1 with
      | some b => bs_ge r.2 (li_sub al b)
      | none => false)
    | none => false
  | _, _ => false
def bm_o1 (T : BT) (s : BS) (rf : List (Nat × Li)) (o : Option BV ⊕ Nat) (oc : BO) : Bool := match oc.1, o with
  | .inl none, .inl none => (bu_all s (li_ids (t_k T)) [] [] rf oc.2).isSome
  | .inl (some p), .inl (some a) => (bu_all s (li_ids (t_k T)) [p] [a] (b_rf [a] ++ rf) oc.2).isSome
  | .inr n, .inr k => decide (n = k) && (bu_all s (li_ids (t_k T)) [] [] rf oc.2).isSome
  | _, _ => false
def bm_out (T : BT) (o : Option BV ⊕ Nat) (s : BS) : Bool := (t_os T).any (bm_o1 T s (b_rf (t_as T)) o)
def bm_rf (t : FieldType) (s : BS) (f : Li) : Bool := match t with
  | .int => true
  | .boolean => bs_fit s 0 1 f
  | .byte => bs_fit s (-128) 127 f
  | .char => bs_fit s 0 65535 f
  | _ => false
def bm_ret (M : AM) (i : Instr) (len : Nat) (st : List BV) (s : BS) : Option (Option BV) := match i, len, st with
  | .ireturn, 1, [.inl q] => match m_ret M with
    | some t => if q.1 = 0 ∧ bm_rf t s q.2 = true then some (some (.inl q)) else none
    | none => none
  | .lreturn, 1, [.inl q] => if m_ret M = some .long ∧ q.1 = 1 then some (some (.inl q)) else none
  | .areturn, 1, [x] => match m_ret M with
    | some (.object _) => if bv_cat x = 3 then some (some x) else none
    | _ => none
  | .return_, 1, [] => if m_ret M = none then some none else none
  | _, _, _ => none
def bm_th (d : Nat) (M : AM) (i : Instr) (len : Nat) (aux : List Nat) (st : List BV) : Option Nat := match i, len, aux with
  | .new _, 3, [n, _, _, _, _] => if 6 ≤ d ∧ m_hh M = [] ∧ (st.map bv_wd).sum ≤ 8 then some n else none
  | _, _, _ => none
/-- the law's script -/
def bm_sc (sc : Bool) (i : Instr) (len : Nat) (st : List BV) (s : BS) : Option (List BV × BS) := match i, st with
  | .arraylength, .inr (.inr 5) :: r => if sc = true ∧ len = 1 then some (.inl (0, li_n 0) :: r, s) else none
  | .iaload, .inl x :: .inr (.inr 5) :: r => if sc = true ∧ len = 1 ∧ x.1 = 0 ∧ bs_ge s x.2 = true ∧ bs_ge s (li_sh (-1) (li_sub (li_n 0) x.2)) = true then some (.inl (0, (bs_q s 1010 (li_c 0) x.2 (-2147483648) 2147483647).2) :: r, (bs_q s 1010 (li_c 0) x.2 (-2147483648) 2147483647).1) else none
  | _, _ => none
/-- what a receiver is an object of -/
def bm_rc (x : BV) (M : AM) : Bool := match x with
  | .inr (.inl o) => match bk_tab[o.1]? with
    | some (.inl q) => decide (m_kind M = 0 ∧ q.1 = m_ci M)
    | _ => false
  | .inr (.inr n) => decide (m_kind M = 3 ∧ 100 ≤ n ∧ n < 102)
  | _ => false
def bm_call (mt : List AM) (i : Instr) (len : Nat) (aux : List Nat) (st : List BV) : Option (Nat × AM × List BV × List BV) := match i, aux with
  | .invokevirtual _, [k, _] => match mt[k]? with
    | some M => match st.drop (m_n M) with
      | x :: r => if len = 3 ∧ bm_rc x M = true ∧ (r.map bv_wd).sum ≤ 8 then some (k, M, x :: (st.take (m_n M)).reverse, r) else none
      | [] => none
    | none => none
  | .invokestatic _, [k, _] => match mt[k]? with
    | some M => if len = 3 ∧ m_kind M = 1 ∧ m_n M ≤ st.length ∧ ((st.drop (m_n M)).map bv_wd).sum ≤ 8 then some (k, M, (st.take (m_n M)).reverse, st.drop (m_n M)) else none
    | none => none
  | .invokestatic _, [k, _, _] => match mt[k]? with
    | some M => if len = 3 ∧ m_kind M = 1 ∧ m_n M ≤ st.length ∧ ((st.drop (m_n M)).map bv_wd).sum ≤ 8 ∧ m_hh M = [] then some (k, M, (st.take (m_n M)).reverse, st.drop (m_n M)) else none
    | none => none
  | _, _ => none
/-- nothing is thrown -/
def bm_nx (C : BT) : Bool := (t_os C).all (fun o => match o.1 with
  | .inl _ => true
  | .inr _ => false)
theorem bm_nx_ok {C : BT} (h : bm_nx C = true) {o : BO} (ho : o ∈ t_os C) {n : Nat} : o.1 ≠ .inr n := by
  intro e
  have h2 := List.all_eq_true.mp h o ho
  rw [e] at h2
  cases h2
/-- a static method of the nest's host, by its own link -/
def b_ck4 (mt : List AM) (own : String) (i : Instr) (aux : List Nat) : Bool := match i, aux with
  | .invokestatic x, [k, t, _] => match mt[k]? with
    | some M => ai_wb t (.methodLinkNest own x (m_y M) "MountYard")
    | none => false
  | _, _ => true
def bm_try (cts : List BT) (k : Nat) (as : List BV) (s : BS) : List Nat → Option (BT × List Li × BS)
  | [] => none
  | j :: js => match cts[j]? with
    | some C => if t_mi C = k then (match bu_all s [] (t_as C) as (b_rf as) (t_s C) with
      | some r => some (C, r)
      | none => bm_try cts k as s js) else bm_try cts k as s js
    | none => bm_try cts k as s js
def bm_oc (T : BT) (M : AM) (ih : BIH) (pc : Nat) (lo : BLo) (rest : List BV) (C : BT) (r : List Li × BS) (al : Li) (o : BO) : Bool := match bo_vl r.2 r.1 o, bo_st (t_md C) r.2 r.1 o with
  | some (.inl ws), some ss => ss.all (fun s => ih false (pc + 3) lo (ws ++ rest) s al)
  | some (.inr n), some ss => match ai_hnd pc n (m_hh M) (m_hx M) with
    | some h => ss.all (fun s => ih false h lo [.inr (.inr 1)] s al)
    | none => decide (m_hh M = []) && ss.all (fun s => bm_out T (.inr n) s)
  | _, _ => false
def bm_go (mt : List AM) (cts : List BT) (T : BT) (M : AM) (ih : BIH) (pc : Nat) (i : Instr) (len : Nat) (aux : List Nat) (lo : BLo) (st : List BV) (s : BS) (al : Li) : Bool := match bm_call mt i len aux st with
  | some q => match (t_ht T).find? (fun x => x.1 == pc) with
    | some js => match bm_try cts q.1 q.2.2.1 s js.2 with
      | some r => (decide (aux.length ≠ 3) || bm_nx r.1) && decide (t_d r.1 + 1 ≤ t_d T) && (decide ((q.2.2.1.map bv_wd).sum ≤ m_L q.2.1) && ((t_md r.1).all (fun c => decide (c ∈ t_md T)) && (bs_ge r.2.2 (li_sh (-(t_mc r.1 : Int)) al) && (t_os r.1).all (bm_oc T M ih pc lo q.2.2.2 r.1 r.2 (li_sh (-(t_mc r.1 : Int)) al)))))
      | none => false
    | none => false
  | none => false
def bm_body (mt : List AM) (cts : List BT) (T : BT) (M : AM) (ms : Option Li) (ih : BIH) : BIH := fun fst pc lo st s al =>
  match (if fst then [] else (t_hs T).filter (fun h => h.1 == pc)) with
  | h :: hs => (h :: hs).any (fun h => bm_hd T ms h lo st s al)
  | [] =>
  match (m_code M).find? (fun q => q.1 == pc) with
  | none => false
  | some q =>
    match bm_pu (t_sp T) (m_L M) q.2.1 q.2.2.1 pc lo st s with
    | some rs => rs.all (fun r => ih false r.1 r.2.1 r.2.2.1 r.2.2.2 al)
    | none =>
    match b_h1 q.2.1 q.2.2.1 q.2.2.2 st s with
    | some r => ih false (pc + q.2.2.1) lo r.1 r.2 al
    | none =>
    match b_h2 (t_md T) q.2.1 q.2.2.1 q.2.2.2 st s with
    | some r => ih false (pc + q.2.2.1) lo r.1 r.2 al
    | none =>
    match bm_ret M q.2.1 q.2.2.1 st s with
    | some ov => bm_out T (.inl ov) s
    | none =>
    match b_j1 q.2.1 q.2.2.1 q.2.2.2 st s with
    | some rs => rs.all (fun r => ih false (pc + q.2.2.1) lo r.1 r.2 al)
    | none =>
    match b_j2 (t_md T) (t_d T) q.2.1 q.2.2.1 q.2.2.2 st s with
    | some r => ih false (pc + q.2.2.1) lo r.1 r.2 al
    | none =>
    match b_j3 (t_d T) q.2.1 q.2.2.1 q.2.2.2 st s with
    | some rs => rs.all (fun r => ih false (pc + q.2.2.1) lo r.1 r.2 al)
    | none =>
    match bm_sc (t_sc T) q.2.1 q.2.2.1 st s with
    | some r => ih false (pc + q.2.2.1) lo r.1 r.2 al
    | none =>
    match bm_th (t_d T) M q.2.1 q.2.2.1 q.2.2.2 st with
    | some n => bs_ge s (li_sh (-1) al) && bm_out T (.inr n) s
    | none => bm_go mt cts T M ih pc q.2.1 q.2.2.1 q.2.2.2 lo st s al
def bm_run (mt : List AM) (cts : List BT) (T : BT) (M : AM) (ms : Option Li) (fuel : Nat) : BIH := Nat.rec (motive := fun _ => BIH) (fun _ _ _ _ _ _ => false) (fun _ ih => bm_body mt cts T M ms ih) fuel
def b_args : Nat → List BV → BLo
  | _, [] => []
  | i, v :: vs => (i, v) :: b_args (if bv_wd v = 2 then i + 2 else i + 1) vs
def li_w (n : Nat) (a : Li) : Bool := a.2.all (fun q => decide (q.1 < n))
theorem li_w_t {nu : List Int} : ∀ {a : LT}, a.all (fun q => decide (q.1 < nu.length)) = true → ∃ x, li_t nu a = some x
  | [], _ => ⟨0, rfl⟩
  | q :: r, h => by
    rw [List.all_cons, Bool.and_eq_true, decide_eq_true_eq] at h
    obtain ⟨x, hx⟩ := li_w_t h.2
    exact ⟨_, li_t_mk (List.getElem?_eq_getElem h.1) hx⟩
theorem li_w_ok {nu : List Int} {a : Li} (h : li_w nu.length a = true) : ∃ x, li_e nu a = some x := by
  obtain ⟨x, hx⟩ := li_w_t h
  exact ⟨_, li_e_mk hx⟩
def bm_spl (h : BH) : List BS := match h.2.2.2.2.2 with
  | none => [h.2.2.1]
  | some d => if li_w h.2.2.1.1.length d then b_cnd false .lt h.2.2.1 d ++ b_cnd false .ge h.2.2.1 d else [h.2.2.1]
theorem bm_spl_ok {nu : List Int} {g : BG} {h : BH} (k : bs_ok nu g h.2.2.1) : ∃ s, s ∈ bm_spl h ∧ bs_ok nu g s := by
  unfold bm_spl
  split
  · exact ⟨_, List.mem_singleton.mpr rfl, k⟩
  · next d _ =>
    split
    · next hw =>
      rw [k.1.1] at hw
      obtain ⟨z, hz⟩ := li_w_ok hw
      rcases Int.lt_or_le z 0 with q | q
      · obtain ⟨t, t1, t2⟩ := b_cnd_ok (spl := false) (k := .lt) k hz q
        exact ⟨t, List.mem_append_left _ t1, t2⟩
      · obtain ⟨t, t1, t2⟩ := b_cnd_ok (spl := false) (k := .ge) k hz q
        exact ⟨t, List.mem_append_right _ t1, t2⟩
    · exact ⟨_, List.mem_singleton.mpr rfl, k⟩
/-- all of a contract: its entry, and each head -/
def bm_chk (mt : List AM) (cts : List BT) (T : BT) (fuel : Nat) : Bool := match mt[t_mi T]? with
  | some M => decide (((t_as T).map bv_wd).sum ≤ m_L M) && (bm_run mt cts T M none fuel true 0 (b_args 0 (t_as T)) [] (t_s T) (li_c (t_mc T : Int)) && (t_hs T).all (fun h => bs_ge h.2.2.1 h.2.2.2.1 && (bs_ge h.2.2.1 h.2.2.2.2.1 && (bm_spl h).all (fun s => bm_run mt cts T M (some h.2.2.2.1) fuel true h.1 h.2.1 [] s h.2.2.2.2.1))))
  | none => false
/-! what it means -/
def b_O (B : BE) (nu : List Int) (o : Option BV) (v : Option Value) : Prop := match o, v with
  | none, none => True
  | some a, some x => bv_V B nu a x
  | _, _ => False
def b_Ev (D : va_G) (B : BE) (md : List Nat) (g0 : BG) (A : Nat → Prop) (st t : State) (g : BG) : Prop := va_P D vwCl (bw B g) t.heap ∧ va_D A (bw B g) ∧ va_F A st t ∧ bw_ok g ∧ bg_same md g0 g
def b_Q (D : va_G) (B : BE) (os : List BO) (md : List Nat) (n0 : List Int) (g0 : BG) (A : Nat → Prop) : Array Value → State → Outcome → State → Prop := fun _ st oc t => ∃ (o : BO) (ov : Option BV) (v : Option Value) (nq : List Int) (g : BG), o ∈ os ∧ o.1 = .inl ov ∧ oc = .returned v ∧ b_O B nq ov v ∧ nu_le n0 nq ∧ bs_ok nq g o.2 ∧ b_Ev D B md g0 A st t g
def b_X (D : va_G) (B : BE) (os : List BO) (md : List Nat) (n0 : List Int) (g0 : BG) (A : Nat → Prop) : String → State → State → Prop := fun N st t => ∃ (o : BO) (n : Nat) (nq : List Int) (g : BG), o ∈ os ∧ o.1 = .inr n ∧ n < 5 ∧ N = ax_n n ∧ nu_le n0 nq ∧ bs_ok nq g o.2 ∧ b_Ev D B md g0 A st t g
def b_En (D : va_G) (B : BE) (A : Nat → Prop) (U : State) : Prop := ai_G D U ∧ ai_Z A U U.heap ∧ bb_ok B U ∧ b_Rs B U ∧ b_Zs B A U U.heap
def b_Pc (D : va_G) (B : BE) (g : BG) (sz : Nat) (av : List Value) : Array Value → State → Prop := va_Pc av (fun U => U.heap.size = sz ∧ va_P D vwCl (bw B g) U.heap ∧ va_D (fun _ => True) (bw B g) ∧ b_En D B (va_A (bw B g) sz) U)
def b_CT (mt : List AM) (l : Launch) (D : va_G) (B : BE) (T : BT) : Prop := ∀ (M : AM), mt[t_mi T]? = some M → ∀ (n0 : List Int) (g : BG) (sz : Nat) (av : List Value), bs_ok n0 g (t_s T) → bw_ok g → b_S B n0 (t_as T) av →
  vx_Met l (m_y M) (m_ws M) (ai_rm (t_d T) (t_mc T) (6 * t_mc T)) (b_Pc D B g sz av) (b_Q D B (t_os T) (t_md T) n0 g (va_A (bw B g) sz)) (b_X D B (t_os T) (t_md T) n0 g (va_A (bw B g) sz)) (t_mc T) (6 * t_mc T) (va_A (bw B g) sz)
theorem b_Pc_blind {D : va_G} {B : BE} {g : BG} {sz : Nat} {av : List Value} : FrameBlind (b_Pc D B g sz av) := by
  intro a U gg mk h
  obtain ⟨h0, h1, h2, h3, h4, h5, h6, h7, h8⟩ := h
  exact ⟨h0, h1, h2, h3, h4.same (U := U.calling gg mk a) (show U.vm = (U.calling gg mk a).vm from rfl), h5.moved (Vm.Alike.refl U.vm), h6.moved (Vm.Alike.refl U.vm), h7.same (U := U.calling gg mk a) rfl, h8.moved (Vm.Alike.refl U.vm)⟩
theorem bw_A {B : BE} {g g' : BG} {sz : Nat} {q : Nat} (h : va_A (bw B g) sz q) : va_A (bw B g') sz q := by
  rcases h with ⟨k, e, h⟩ | h
  · have hk := bw_lt h
    rw [bw_get B g hk] at h
    cases h
    exact Or.inl ⟨k, _, bw_get B g' hk⟩
  · exact Or.inr h
theorem b_args_ok {B : BE} {nu : List Int} : ∀ (i : Nat) {a : List BV} {x : List Value}, b_S B nu a x → b_L B nu (b_args i a) (lv_args i x)
  | _, [], [], _ => trivial
  | _, [], _ :: _, h => h.elim
  | _, _ :: _, [], h => h.elim
  | i, a :: as, v :: vs, h => by
    refine ⟨⟨rfl, h.1⟩, ?_⟩
    rw [show v.category = bv_wd a from bv_V_wd h.1]
    exact b_args_ok _ h.2
theorem b_S_app {B : BE} {nu : List Int} : ∀ {a b : List BV} {x y : List Value}, b_S B nu a x → b_S B nu b y → b_S B nu (a ++ b) (x ++ y)
  | [], _, [], _, _, h => h
  | [], _, _ :: _, _, h, _ => h.elim
  | _ :: _, _, [], _, h, _ => h.elim
  | _ :: _, _, _ :: _, _, h, k => ⟨h.1, b_S_app h.2 k⟩
theorem b_S_rev {B : BE} {nu : List Int} : ∀ {a : List BV} {x : List Value}, b_S B nu a x → b_S B nu a.reverse x.reverse
  | [], [], h => h
  | [], _ :: _, h => h.elim
  | _ :: _, [], h => h.elim
  | _ :: _, _ :: _, h => by
    rw [List.reverse_cons, List.reverse_cons]
    exact b_S_app (b_S_rev h.2) ⟨h.1, trivial⟩
theorem b_S_take {B : BE} {nu : List Int} : ∀ (n : Nat) {a : List BV} {x : List Value}, b_S B nu a x → b_S B nu (a.take n) (x.take n)
  | 0, _, _, _ => trivial
  | _ + 1, [], [], h => h
  | _ + 1, [], _ :: _, h => h.elim
  | _ + 1, _ :: _, [], h => h.elim
  | n + 1, _ :: _, _ :: _, h => ⟨h.1, b_S_take n h.2⟩
theorem b_S_drop {B : BE} {nu : List Int} : ∀ (n : Nat) {a : List BV} {x : List Value}, b_S B nu a x → b_S B nu (a.drop n) (x.drop n)
  | 0, _, _, h => h
  | _ + 1, [], [], h => h
  | _ + 1, [], _ :: _, h => h.elim
  | _ + 1, _ :: _, [], h => h.elim
  | n + 1, _ :: _, _ :: _, h => b_S_drop n h.2
theorem b_split {B : BE} {nu : List Int} {st : List BV} {vs : List Value} {n : Nat} {x : BV} {rr : List BV} (hS : b_S B nu st vs) (h : st.drop n = x :: rr) : ∃ (v : Value) (vr : List Value), vs = (vs.take n).reverse.reverse ++ v :: vr ∧ (vs.take n).reverse.length = n ∧ bv_V B nu x v ∧ b_S B nu rr vr ∧ b_S B nu (st.take n).reverse (vs.take n).reverse := by
  have h1 := b_S_drop n hS
  rw [h] at h1
  have hl : n < vs.length := by
    rw [← b_S_len hS]
    rcases Nat.lt_or_ge n st.length with g | g
    · exact g
    · rw [List.drop_eq_nil_of_le g] at h; cases h
  cases hd : vs.drop n with
  | nil => rw [hd] at h1; exact h1.elim
  | cons v vr =>
    rw [hd] at h1
    refine ⟨v, vr, ?_, ?_, h1.1, h1.2, b_S_rev (b_S_take n hS)⟩
    · rw [List.reverse_reverse, ← hd, List.take_append_drop]
    · rw [List.length_reverse, List.length_take]; omega
/-- a method's row says; methods of String are a kind of their own -/
def bj_mok (M : AM) : Bool :=
  plainName (m_own M) && decide ((m_y M).cls = m_own M) && decide (m_own M = "java/lang/String")
    && decide ((parseMethodDescriptor (m_y M).desc).map (fun d => d.parameters.length) = some (m_n M)) && decide (m_L M ≤ 16)
    && (match m_ts M with
      | [tc, ti, tk, tsel] => ai_w tc (m_head M) && ai_w ti (.initialized (m_own M)) && ai_w tk (.instanceMethod (m_y M)) && ai_w tsel (.selects (m_own M) (m_y M) (m_y M)) && decide (m_hh M = []) && decide (m_kind M = 3)
      | _ => false)
    && ai_ckh (m_own M) (m_hh M) (m_hx M)
def b_mok1 (M : AM) : Bool := ai_mok1 M || bj_mok M
def b_row (mt : List AM) (M : AM) (q : AQ) : Bool := ai_row mt M q && b_ck3 (m_own M) q.2.1 q.2.2.2 && b_ck4 mt (m_own M) q.2.1 q.2.2.2
def b_mok2 (mt : List AM) (M : AM) : Bool := (m_code M).all (b_row mt M)
def b_Mk (M : AM) : Prop := plainName (m_own M) = true ∧ (m_y M).cls = m_own M ∧ m_own M ≠ "java/lang/invoke/MethodHandle" ∧ m_own M ≠ "java/lang/invoke/VarHandle" ∧ (parseMethodDescriptor (m_y M).desc).map (fun d => d.parameters.length) = some (m_n M) ∧ m_L M ≤ 16 ∧
  m_head M ∈ m_G ∧ Cond.initialized (m_own M) ∈ m_G ∧ ai_ckh (m_own M) (m_hh M) (m_hx M) = true ∧
  (m_kind M = 0 → Cond.instanceMethod (m_y M) ∈ m_G ∧ Cond.selects (m_own M) (m_y M) (m_y M) ∈ m_G ∧ (vwCl[m_ci M]?).map (fun r => r.1) = some (m_own M) ∧ m_hh M = []) ∧
  (m_kind M = 1 → Cond.static (m_y M) ∈ m_G) ∧
  (m_kind M = 3 → Cond.instanceMethod (m_y M) ∈ m_G ∧ Cond.selects (m_own M) (m_y M) (m_y M) ∈ m_G ∧ m_own M = "java/lang/String" ∧ m_hh M = []) ∧
  (m_kind M = 2 → (m_y M).name = "<init>")
theorem b_Mk_of {M : AM} (h : b_mok1 M = true) : b_Mk M := by
  unfold b_mok1 at h
  rw [Bool.or_eq_true] at h
  rcases h with h | h
  · have h3 : m_kind M ≠ 3 := by
      intro e
      unfold ai_mok1 at h
      simp only [Bool.and_eq_true, decide_eq_true_eq] at h
      obtain ⟨⟨-, h7⟩, -⟩ := h
      split at h7
      · rw [e] at h7
        simp only [Bool.and_eq_true, decide_eq_true_eq] at h7
        exact absurd h7.2.2 (by decide)
      · cases h7
    obtain ⟨k1, k2, k3, k4, k5, k6, k7, k8, k9, k10, k11, k12⟩ := ai_Mk_of h
    exact ⟨k1, k2, k3, k4, k5, k6, k7, k8, k9, k10, k11, fun z => absurd z h3, fun z => (k12 z).2.1⟩
  · unfold bj_mok at h
    simp only [Bool.and_eq_true, decide_eq_true_eq] at h
    obtain ⟨⟨⟨⟨⟨⟨h1, h2⟩, h3⟩, h5⟩, h6⟩, h7⟩, h8⟩ := h
    split at h7
    · next tc ti tk tsel hts =>
      simp only [Bool.and_eq_true, decide_eq_true_eq] at h7
      obtain ⟨⟨⟨⟨⟨g1, g2⟩, g3⟩, g4⟩, g5⟩, g6⟩ := h7
      exact ⟨h1, h2, by rw [h3]; decide, by rw [h3]; decide, h5, h6, ai_w_G g1, ai_w_G g2, h8, fun z => absurd (g6.symm.trans z) (by decide), fun z => absurd (g6.symm.trans z) (by decide), fun _ => ⟨ai_w_G g3, ai_w_G g4, h3, g5⟩, fun z => absurd (g6.symm.trans z) (by decide)⟩
    · cases h7
