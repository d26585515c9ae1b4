/-! ===== machine B: text constants, statics, arraycopy ===== -/
def bj_len : List Nat := [6, 7]
def bj_byt : List (List Int32) := [[57, 80, 50, 48, 48, 48], [117, 110, 107, 110, 111, 119, 110]]
def b_Zs (B : BE) (A : Nat → Prop) (s : State) (H : Heap) : Prop := vk_S 2 bj_len bj_byt (fun i => b_xo B (100 + i)) (fun i => b_xo B (200 + i)) A s H ∧ va_Z "java/lang/String" "COMPACT_STRINGS" "Z" (.int 1) A s H ∧ va_Zq "jdk/internal/util/Preconditions" "SIOOBE_FORMATTER" "Ljava/util/function/BiFunction;" A s H
theorem b_Zs.moved {B : BE} {A : Nat → Prop} {s U : State} {H : Heap} (e : s.vm.Alike U.vm) (h : b_Zs B A s H) : b_Zs B A U H := ⟨h.1.moved e, h.2.1.moved e, h.2.2.moved e⟩
theorem b_Zs.kept {B : BE} {A : Nat → Prop} {s : State} {H H1 : Heap} (h : b_Zs B A s H) (k : ∀ a : Nat, a < H.size → ¬ A a → H1[a]? = H[a]?) : b_Zs B A s H1 := ⟨h.1.kept k, h.2.1.kept k, h.2.2.kept k⟩
theorem b_Zs.narrow {B : BE} {A A' : Nat → Prop} {s : State} {H : Heap} (h : b_Zs B A s H) (k : ∀ q, A' q → A q) : b_Zs B A' s H := ⟨h.1.narrow k, h.2.1.narrow k, h.2.2.narrow k⟩
def b_Rs (B : BE) (s : State) : Prop := vk_R "MountYard$Talk" 140 "9P2000" (b_xo B 100) s ∧ vk_R "MountYard$Talk" 146 "unknown" (b_xo B 101) s
theorem b_Rs.warm {B : BE} {s U : State} (hW : s.WarmedH U.vm) (h : b_Rs B s) : b_Rs B U := ⟨vk_R.warm hW h.1, vk_R.warm hW h.2⟩
theorem b_Rs.same {B : BE} {s U : State} (e : U.vm = s.vm) (h : b_Rs B s) : b_Rs B U := ⟨vk_R.same e h.1, vk_R.same e h.2⟩
/-- what these instructions look up in the tables -/
def b_ck3 (own : String) (i : Instr) (aux : List Nat) : Bool := match i, aux with
  | .ldc x, [0, n, t] => ai_w t (.constant own x (Int32.ofNat n)) && decide (n < 2147483648)
  | .ldc x, [1, i] => decide (own = "MountYard$Talk") && (decide (i = 0 ∧ x = 140) || decide (i = 1 ∧ x = 146))
  | .getstatic x, [0, t] => ai_w t (.fieldLink own x "java/lang/String" "COMPACT_STRINGS" "Z")
  | .getstatic x, [1, t] => ai_w t (.fieldLink own x "jdk/internal/util/Preconditions" "SIOOBE_FORMATTER" "Ljava/util/function/BiFunction;")
  | .getfield x, [t] => ai_w t (.fieldLink own x "java/lang/String" "value" "[B")
  | .getfield x, [t, 0] => ai_w t (.fieldLink own x "java/lang/String" "coder" "B")
  | .invokestatic x, [t1, t2, t3, t4] => ai_w t1 (.methodLink own x arraycopyName) && (ai_w t2 (.native arraycopyName) && (ai_w t3 (.static arraycopyName) && ai_w t4 (.initialized "java/lang/System")))
  | .invokestatic x, [w, t1, t2, t3, t4] => ai_w t3 (.initialized "java/lang/Math") && (if w = 0 then ai_w t1 (.methodLink own x Lib.Math.max.name) && (ai_w t2 (.static Lib.Math.max.name) && ai_w t4 (.code Lib.Math.max.name Lib.Math.max.code 2 (some .int)))
    else if w = 1 then ai_w t1 (.methodLink own x Lib.Math.min.name) && (ai_w t2 (.static Lib.Math.min.name) && ai_w t4 (.code Lib.Math.min.name Lib.Math.min.code 2 (some .int)))
    else ai_w t1 (.methodLink own x Lib.MathLoose.min_long.x) && (ai_w t2 (.static Lib.MathLoose.min_long.x) && ai_w t4 (.code Lib.MathLoose.min_long.x Lib.MathLoose.min_long.code 4 (some .long))))
  | _, _ => true
/-- the greater or the lesser of two numbers -/
def b_j3 (d : Nat) (i : Instr) (len : Nat) (aux : List Nat) (st : List BV) (s : BS) : Option (List (List BV × BS)) := match i, aux, st with
  | .invokestatic _, [w, _, _, _, _], .inl y :: .inl x :: r => if len = 3 ∧ 1 ≤ d ∧ (r.map bv_wd).sum ≤ 8 ∧ x.1 = y.1 ∧ x.1 = (if w = 0 ∨ w = 1 then 0 else 1) then
      some (if w = 0 then (b_cnd false .lt s (li_sub x.2 y.2)).map (fun t => (.inl y :: r, t)) ++ (b_cnd false .ge s (li_sub x.2 y.2)).map (fun t => (.inl x :: r, t))
        else (b_cnd false .gt s (li_sub x.2 y.2)).map (fun t => (.inl y :: r, t)) ++ (b_cnd false .le s (li_sub x.2 y.2)).map (fun t => (.inl x :: r, t))) else none
  | _, _, _ => none
def bj_n (n : Nat) : Option Nat := if n = 0 then some 6 else if n = 1 then some 7 else none
/-- reads: the ways it may go on -/
def b_j1 (i : Instr) (len : Nat) (aux : List Nat) (st : List BV) (s : BS) : Option (List (List BV × BS)) := match i, aux, st with
  | .ldc _, [0, n, _], r => if len = 2 then some [(.inl (0, li_c (n : Int)) :: r, s)] else none
  | .ldc _, [1, k], r => if len = 2 ∧ k < 2 then some [(.inr (.inr (100 + k)) :: r, s)] else none
  | .getstatic _, [0, _], r => if len = 3 then some [(.inl (0, li_c 1) :: r, s)] else none
  | .getstatic _, [1, _], r => if len = 3 then some [(.inr (.inr 0) :: r, s), (.inr (.inr 1) :: r, s)] else none
  | .getfield _, [_], .inr (.inr n) :: r => if len = 3 ∧ 100 ≤ n ∧ n < 102 then some [(.inr (.inr (n + 100)) :: r, s)] else none
  | .getfield _, [_, 0], .inr (.inr n) :: r => if len = 3 ∧ 100 ≤ n ∧ n < 102 then some [(.inl (0, li_c 0) :: r, s)] else none
  | .arraylength, _, .inr (.inr n) :: r => match bj_n (n - 200) with
    | some c => if len = 1 ∧ 200 ≤ n then some [(.inl (0, li_c (c : Int)) :: r, s)] else none
    | none => none
  | .baload, _, .inl x :: .inr (.inr n) :: r => match bj_n (n - 200) with
    | some c => if len = 1 ∧ 200 ≤ n ∧ x.1 = 0 ∧ b_in s c x.2 = true then some [(.inl (0, (bs_ti s).2) :: r, (bs_ti s).1)] else none
    | none => none
  | _, _, _ => none
/-- arraycopy within one row of bytes -/
def b_j2 (md : List Nat) (d : Nat) (i : Instr) (len : Nat) (aux : List Nat) (st : List BV) (s : BS) : Option (List BV × BS) := match i, aux, st with
  | .invokestatic _, [_, _, _, _], .inl n :: .inl dp :: .inr (.inl o2) :: .inl sp :: .inr (.inl o1) :: r => match bk_tab[o1.1]? with
    | some (.inr q) => if len = 3 ∧ q.1 = 0 ∧ o1 = o2 ∧ n.1 = 0 ∧ dp.1 = 0 ∧ sp.1 = 0 ∧ bs_ge s n.2 = true ∧ bs_ge s dp.2 = true ∧ bs_ge s sp.2 = true ∧ bs_ge s (li_sub (li_c (q.2.1 : Int)) (li_add sp.2 n.2)) = true ∧ bs_ge s (li_sub (li_c (q.2.1 : Int)) (li_add dp.2 n.2)) = true ∧ bk_code o1.1 0 ∈ md ∧ 1 ≤ d ∧ (r.map bv_wd).sum ≤ 8 then some (r, (s.1, s.2.1, s.2.2.filter (fun e => decide (e.1 ≠ o1.1)))) else none
    | _ => none
  | _, _, _ => none
theorem b_S_sum {B : BE} {nu : List Int} : ∀ {a : List BV} {x : List Value}, b_S B nu a x → (x.map fun v => v.category).sum = (a.map bv_wd).sum
  | [], [], _ => rfl
  | [], _ :: _, h => h.elim
  | _ :: _, [], h => h.elim
  | _ :: _, _ :: _, h => by rw [List.map_cons, List.map_cons, List.sum_cons, List.sum_cons, b_S_sum h.2, bv_V_wd h.1]
theorem bj_n_ok {n c : Nat} (h : bj_n n = some c) : n < 2 ∧ bj_len.getD n 0 = c ∧ c < 2147483648 := by
  unfold bj_n at h
  split at h
  · next e => cases h; subst e; exact ⟨by decide, rfl, by decide⟩
  · split at h
    · next e => cases h; subst e; exact ⟨by decide, rfl, by decide⟩
    · cases h
section BJ
variable {p : Program} {l : Launch} {e : Env} {R : Room} {s : State} {m : MethodId} {args : Array Value} {below : List Frame} {meth : Method} {c : Code} {H : Heap} {locs : List Loc} {cells slots : Nat} {Q : State → Prop}
variable {cc : ByteArray} {pc : Nat} {ls : Array Slot} {i : Instr} {len : Nat} {aux : List Nat} {B : BE} {nu : List Int} {g : BG} {st : List BV} {vs : List Value} {t : BS} {own : String} {D : va_G} {A : Nat → Prop}
set_option maxHeartbeats 2000000 in
theorem b_j1_ok (hx : p.tables.exec = Jvm.exec) (hb : c.code = cc) (hown : s.vm.findClass own = some m.cls) (hT : ∀ w, w ∈ lw_tbl → goodWord w = true → w.before args s = true) (hd : decode cc pc = .ok (i, len)) (hchk : b_ck3 own i aux = true)
    (hR : b_Rs B s) (hZ : b_Zs B A s s.heap) (hSs : va_S A s.heap H locs) (ht : bs_ok nu g t) (hS : b_S B nu st vs) {rs : List (List BV × BS)} (h : b_j1 i len aux st t = some rs)
    (k : ∀ r ∈ rs, ∀ (nv : List Int) (vs' : List Value), nu_le nu nv → bs_ok nv g r.2 → b_S B nv r.1 vs' → W p l e R s m args below meth c H locs cells slots Q (F0 m (pc + len) ls vs')) : W p l e R s m args below meth c H locs cells slots Q (F0 m pc ls vs) := by
  unfold b_j1 at h
  split at h
  · next ix n z =>
    split at h
    · next hc =>
      cases h
      subst hc
      have hchk : (ai_w z (.constant own ix (Int32.ofNat n)) && decide (n < 2147483648)) = true := hchk
      rw [Bool.and_eq_true, decide_eq_true_eq] at hchk
      refine lv_ldc hx hb hown (hT _ (ai_w_ok hchk.1).1 (ai_w_ok hchk.1).2) hd (k _ (List.mem_singleton.mpr rfl) nu (_ :: vs) nu_le.rf ht ⟨bv_i.mpr ⟨_, rfl, ?_⟩, hS⟩)
      show li_e nu (li_c (n : Int)) = some (nI n).toInt
      rw [li_e_c, nI_toInt (by omega)]
    · cases h
  · next ix n =>
    split at h
    · next hc =>
      cases h
      obtain ⟨rfl, hn⟩ := hc
      have hchk : (decide (own = "MountYard$Talk") && (decide (n = 0 ∧ ix = 140) || decide (n = 1 ∧ ix = 146))) = true := hchk
      rw [Bool.and_eq_true, Bool.or_eq_true, decide_eq_true_eq, decide_eq_true_eq, decide_eq_true_eq] at hchk
      obtain ⟨h1, h2⟩ := hchk
      have fin : ∀ q, vk_R own ix q (b_xo B (100 + n)) s → W p l e R s m args below meth c H locs cells slots Q (F0 m pc ls vs) := fun q hq =>
        va_ldcS hx hb hown hq hd (k _ (List.mem_singleton.mpr rfl) nu (_ :: vs) nu_le.rf ht ⟨by show bv_X B (100 + n) _; unfold bv_X; rw [if_neg (by omega), if_neg (by omega)], hS⟩)
      rcases h2 with ⟨rfl, rfl⟩ | ⟨rfl, rfl⟩
      · exact fin "9P2000" (by rw [h1]; exact hR.1)
      · exact fin "unknown" (by rw [h1]; exact hR.2)
    · cases h
  · next ix z =>
    split at h
    · next hc =>
      cases h
      subst hc
      have hchk : ai_w z (.fieldLink own ix "java/lang/String" "COMPACT_STRINGS" "Z") = true := hchk
      exact va_gets hx hb hZ.2.1 hSs hown (hT _ (ai_w_ok hchk).1 (ai_w_ok hchk).2) (fun x hx => hx) hd (k _ (List.mem_singleton.mpr rfl) nu (_ :: vs) nu_le.rf ht ⟨bv_i.mpr ⟨1, rfl, li_e_c nu _⟩, hS⟩)
    · cases h
  · next ix z =>
    split at h
    · next hc =>
      cases h
      subst hc
      have hchk : ai_w z (.fieldLink own ix "jdk/internal/util/Preconditions" "SIOOBE_FORMATTER" "Ljava/util/function/BiFunction;") = true := hchk
      rcases hZ.2.2 with h1 | ⟨a, h1⟩
      · exact va_gets hx hb h1 hSs hown (hT _ (ai_w_ok hchk).1 (ai_w_ok hchk).2) (fun x hx => hx) hd (k _ List.mem_cons_self nu (_ :: vs) nu_le.rf ht ⟨rfl, hS⟩)
      · exact va_gets hx hb h1 hSs hown (hT _ (ai_w_ok hchk).1 (ai_w_ok hchk).2) (fun x hx => hx) hd (k _ (List.mem_cons_of_mem _ List.mem_cons_self) nu (_ :: vs) nu_le.rf ht ⟨⟨a, rfl⟩, hS⟩)
    · cases h
  · next ix z n r =>
    match vs, hS with
    | [], hS => exact hS.elim
    | v :: vs, ⟨hv, hS2⟩ =>
      split at h
      · next hc =>
        cases h
        obtain ⟨rfl, hn1, hn2⟩ := hc
        obtain ⟨j, rfl⟩ : ∃ j, n = 100 + j := ⟨n - 100, by omega⟩
        have hv : bv_X B (100 + j) v := hv
        unfold bv_X at hv
        rw [if_neg (by omega), if_neg (by omega)] at hv
        subst hv
        have hchk : ai_w z (.fieldLink own ix "java/lang/String" "value" "[B") = true := hchk
        refine vk_getf hx hb (hZ.1.1 j (by omega)).2.2.1 hSs hown (hT _ (ai_w_ok hchk).1 (ai_w_ok hchk).2) (fun x hx => hx) hd (k _ (List.mem_singleton.mpr rfl) nu (_ :: vs) nu_le.rf ht ⟨?_, hS2⟩)
        show bv_X B (100 + j + 100) _
        unfold bv_X
        rw [if_neg (by omega), if_neg (by omega), show 100 + j + 100 = 200 + j by omega]
      · cases h
  · next ix z n r =>
    match vs, hS with
    | [], hS => exact hS.elim
    | v :: vs, ⟨hv, hS2⟩ =>
      split at h
      · next hc =>
        cases h
        obtain ⟨rfl, hn1, hn2⟩ := hc
        obtain ⟨j, rfl⟩ : ∃ j, n = 100 + j := ⟨n - 100, by omega⟩
        have hv : bv_X B (100 + j) v := hv
        unfold bv_X at hv
        rw [if_neg (by omega), if_neg (by omega)] at hv
        subst hv
        have hchk : ai_w z (.fieldLink own ix "java/lang/String" "coder" "B") = true := hchk
        exact vk_getf hx hb (hZ.1.1 j (by omega)).2.1 hSs hown (hT _ (ai_w_ok hchk).1 (ai_w_ok hchk).2) (fun x hx => hx) hd (k _ (List.mem_singleton.mpr rfl) nu (_ :: vs) nu_le.rf ht ⟨bv_i.mpr ⟨0, rfl, li_e_c nu _⟩, hS2⟩)
      · cases h
  · next n r =>
    match vs, hS with
    | [], hS => exact hS.elim
    | v :: vs, ⟨hv, hS2⟩ =>
      split at h
      · next cn hcn =>
        split at h
        · next hc =>
          cases h
          obtain ⟨rfl, hn⟩ := hc
          obtain ⟨h2, h3, h4⟩ := bj_n_ok hcn
          obtain ⟨j, rfl⟩ : ∃ j, n = 200 + j := ⟨n - 200, by omega⟩
          rw [show 200 + j - 200 = j by omega] at h2 h3
          have hv : bv_X B (200 + j) v := hv
          unfold bv_X at hv
          rw [if_neg (by omega), if_neg (by omega)] at hv
          subst hv
          refine va_tlen hx hb (hZ.1.1 j h2).2.2.2 hSs rfl hd (k _ (List.mem_singleton.mpr rfl) nu (_ :: vs) nu_le.rf ht ⟨bv_i.mpr ⟨_, rfl, ?_⟩, hS2⟩)
          rw [h3]
          show li_e nu (li_c (cn : Int)) = some (nI cn).toInt
          rw [li_e_c, nI_toInt (by omega)]
        · cases h
      · cases h
  · next x n r =>
    match vs, hS with
    | [], hS => exact hS.elim
    | [_], ⟨_, hS⟩ => exact hS.elim
    | vj :: v :: vs, ⟨hvj, hv, hS2⟩ =>
      split at h
      · next cn hcn =>
        split at h
        · next hc =>
          cases h
          obtain ⟨rfl, hn, hc1, hc2⟩ := hc
          obtain ⟨h2, h3, h4⟩ := bj_n_ok hcn
          obtain ⟨j, rfl⟩ : ∃ j, n = 200 + j := ⟨n - 200, by omega⟩
          rw [show 200 + j - 200 = j by omega] at h2 h3
          have hv : bv_X B (200 + j) v := hv
          unfold bv_X at hv
          rw [if_neg (by omega), if_neg (by omega)] at hv
          subst hv
          obtain ⟨b, rfl, hxj⟩ := bv_N0 hc1 hvj
          obtain ⟨hin, hxn, hlt⟩ := b_in_ok ht hc2 hxj
          rw [← h3] at hin
          obtain ⟨nv, n1, n2, n3⟩ := bs_ti_R ht ((bj_byt.getD j []).getD b.toNatClampNeg 0)
          exact va_tb hx hb (hZ.1.1 j h2).2.2.2 hSs hin rfl hd (k _ (List.mem_singleton.mpr rfl) nv (_ :: vs) n1 n2 ⟨bv_i.mpr ⟨_, rfl, n3⟩, hS2.mono n1⟩)
        · cases h
      · cases h
  · cases h
set_option maxHeartbeats 2000000 in
theorem b_j2_ok {md : List Nat} {d : Nat} (hx : p.tables.exec = Jvm.exec) (hb : c.code = cc) (hml : c.maxLocals = ls.size) (hown : s.vm.findClass own = some m.cls) (hT : ∀ w, w ∈ lw_tbl → goodWord w = true → w.before args s = true) (hK : va_K D vwCl [] s) (hd : decode cc pc = .ok (i, len)) (hchk : b_ck3 own i aux = true)
    (hB : bb_ok B s) (hg : bw_ok g) (ht : bs_ok nu g t) (hP : va_P D vwCl (bw B g) H) (hD : va_D A (bw B g)) (hSs : va_S A s.heap H locs) (hS : b_S B nu st vs) (hfr : d ≤ R.frames) (hlo : 36 * d ≤ R.locals) {r : List BV × BS} (h : b_j2 md d i len aux st t = some r)
    (k : ∀ (g' : BG) (H' : Heap) (locs' : List Loc) (vs' : List Value), bg_same md g g' → bw_ok g' → bs_ok nu g' r.2 → va_P D vwCl (bw B g') H' → va_D A (bw B g') → va_S A s.heap H' locs' → b_S B nu r.1 vs' → W p l e R s m args below meth c H' locs' cells slots Q (F0 m (pc + len) ls vs')) : W p l e R s m args below meth c H locs cells slots Q (F0 m pc ls vs) := by
  unfold b_j2 at h
  split at h
  · next ix z1 z2 z3 z4 n dp o2 sp o1 r2 =>
    match vs, hS with
    | [], hS => exact hS.elim
    | [_], ⟨_, hS⟩ => exact hS.elim
    | [_, _], ⟨_, _, hS⟩ => exact hS.elim
    | [_, _, _], ⟨_, _, _, hS⟩ => exact hS.elim
    | [_, _, _, _], ⟨_, _, _, _, hS⟩ => exact hS.elim
    | vn :: vd :: v2 :: vsp :: v1 :: vs, ⟨hn, hdp, h2, hsp, h1, hS2⟩ =>
      split at h
      · next q hq =>
        obtain ⟨tt, L, f0⟩ := q
        split at h
        · next hc =>
          cases h
          obtain ⟨rfl, c1, rfl, c3, c4, c5, c6, c7, c8, c9, c10, c11, c12, c13⟩ := hc
          have c1 : tt = 0 := c1
          subst c1
          obtain ⟨P, rfl, hp, hP2, hat⟩ := h1
          obtain ⟨P', rfl, hp', hP2', hat'⟩ := h2
          rw [hp] at hp'
          obtain rfl : P = P' := by have := Option.some.inj hp'; omega
          obtain ⟨xn, rfl, en⟩ := bv_N0 c3 hn
          obtain ⟨xd, rfl, ed⟩ := bv_N0 c4 hdp
          obtain ⟨xs, rfl, es⟩ := bv_N0 c5 hsp
          have g6 := bs_ge_ok ht c6 en
          have g7 := bs_ge_ok ht c7 ed
          have g8 := bs_ge_ok ht c8 es
          have g9 := bs_ge_ok ht c9 (li_e_sub (li_e_c nu _) (li_e_add es en))
          have g10 := bs_ge_ok ht c10 (li_e_sub (li_e_c nu _) (li_e_add ed en))
          dsimp only at g9 g10
          have cl : ∀ w : Int32, 0 ≤ w.toInt → (w.toNatClampNeg : Int) = w.toInt := fun w hw => by show (w.toInt.toNat : Int) = w.toInt; omega
          have k6 := cl xn g6
          have k7 := cl xd g7
          have k8 := cl xs g8
          have z0 : (0 : Int32).toInt = 0 := rfl
          have ng : ∀ w : Int32, 0 ≤ w.toInt → ¬ w < 0 := fun w hw z => by have := Int32.lt_iff_toInt_lt.mp z; omega
          have hq2 : bk_tab[bk_at P]? = some (.inr (0, L, f0)) := by rw [hat]; exact hq
          obtain ⟨hta, hL⟩ := bk_arr hq
          have hfx : ∃ f, f0 = .inl f := by
            cases f0 with
            | inl f => exact ⟨f, rfl⟩
            | inr f => cases hta
          obtain ⟨f, rfl⟩ := hfx
          obtain ⟨w1, w2, -⟩ := bk_ta_w hta
          have hta2 : (decide (f.1 = 0) && (decide (-128 ≤ f.2.1) && decide (f.2.2 ≤ 127))) = true := hta
          simp only [Bool.and_eq_true, decide_eq_true_eq] at hta2
          have hw : (bw B g)[P]? = some (b_ad B P, .inl (b_ac B P, L, .inl (fun j => Int32.ofInt (g P j)))) := by rw [bw_get B g hP2, bw_a hq2]; rfl
          obtain ⟨b1, b2, -⟩ := hB P 0 L _ hP2 hq2
          have hrng : ∀ j, j < L → f.2.1 ≤ g P j ∧ g P j ≤ f.2.2 := fun j hj => hg P j f hP2 (bk_sA hq2 hj)
          have hchk : (ai_w z1 (.methodLink own ix arraycopyName) && (ai_w z2 (.native arraycopyName) && (ai_w z3 (.static arraycopyName) && ai_w z4 (.initialized "java/lang/System")))) = true := hchk
          simp only [Bool.and_eq_true] at hchk
          obtain ⟨q1, q2, q3, q4⟩ := hchk
          have hsum := b_S_sum hS2
          refine va_copyi hx hb hml hown (hT _ (ai_w_ok q1).1 (ai_w_ok q1).2) (hT _ (ai_w_ok q2).1 (ai_w_ok q2).2) (hT _ (ai_w_ok q3).1 (ai_w_ok q3).2) (hT _ (ai_w_ok q4).1 (ai_w_ok q4).2) (ai_K1 hK b1 b2) hP hD hSs P P 0 0 hw hw rfl rfl rfl (ng _ g8) (ng _ g7) (ng _ g6) (by omega) (by omega) ?_ (by omega) ?_ hd (fun H1 locs1 p1 d1 s1 => ?_)
          · intro j hj
            have hr := hrng (xs.toNatClampNeg + j) (by omega)
            have e1 : (Int32.ofInt (g P (xs.toNatClampNeg + j))).toInt = g P (xs.toNatClampNeg + j) := fb_ofI (by omega) (by omega)
            rw [← fb_byte (x := Int32.ofInt (g P (xs.toNatClampNeg + j))) (by omega) (by omega)]
            exact pk_fb _
          · have e7 : nativeFrameWords "java/lang/System" "arraycopy" 5 = 7 := by decide +kernel
            rw [e7]
            omega
          · have eg : (bw B g).set P (b_ad B P, .inl (b_ac B P, L, .inl (va_cpy (fun j => Int32.ofInt (g P j)) (fun j => Int32.ofInt (g P j)) xs.toNatClampNeg xd.toNatClampNeg xn.toNatClampNeg))) = bw B (fun a b => if a = P then va_cpy (g P) (g P) xs.toNatClampNeg xd.toNatClampNeg xn.toNatClampNeg b else g a b) := by
              refine bw_set hP2 (fun a ha => by funext b; exact if_neg ha) ?_
              rw [bw_a hq2]
              have e2 : (fun j => Int32.ofInt ((fun b => if P = P then va_cpy (g P) (g P) xs.toNatClampNeg xd.toNatClampNeg xn.toNatClampNeg b else g P b) j)) = va_cpy (fun j => Int32.ofInt (g P j)) (fun j => Int32.ofInt (g P j)) xs.toNatClampNeg xd.toNatClampNeg xn.toNatClampNeg := by
                funext j
                dsimp only
                rw [if_pos rfl]
                unfold va_cpy
                split <;> rfl
              show Sum.inl (b_ac B P, L, Sum.inl (fun j => Int32.ofInt ((fun b => if P = P then va_cpy (g P) (g P) xs.toNatClampNeg xd.toNatClampNeg xn.toNatClampNeg b else g P b) j))) = _
              rw [e2]
            rw [eg] at p1 d1
            refine k _ H1 locs1 vs ?_ ?_ ⟨ht.1, ht.2.1, ?_⟩ p1 d1 s1 hS2
            · intro a b hn2
              dsimp only
              rw [if_neg]
              rintro rfl
              apply hn2 hP2
              unfold bk_code at c11 ⊢
              rw [hq2]
              rw [hq] at c11
              rw [hat]
              exact c11
            · intro a b qq ha hqq
              dsimp only
              by_cases ea : a = P
              · subst ea
                rw [if_pos rfl]
                have hbL : b < L ∧ qq = f := by
                  unfold bk_spec at hqq
                  rw [hq2] at hqq
                  dsimp only at hqq
                  split at hqq
                  · next hb2 => cases hqq; exact ⟨hb2, rfl⟩
                  · cases hqq
                obtain ⟨hbL, rfl⟩ := hbL
                unfold va_cpy
                split
                · exact hrng _ (by omega)
                · exact hrng _ hbL
              · rw [if_neg ea]
                exact hg a b qq ha hqq
            · intro e' he'
              obtain ⟨f1, f2⟩ := List.mem_filter.mp he'
              have hm := ht.2.2 e' f1
              unfold bc_e at hm ⊢
              split
              · next hk =>
                rw [if_pos hk] at hm
                obtain ⟨P3, X3, m1, m2, m3, m4, m5⟩ := hm
                refine ⟨P3, X3, m1, m2, m3, m4, ?_⟩
                dsimp only
                rw [if_neg]
                · exact m5
                rintro rfl
                have f2 : e'.1 ≠ o1.1 := of_decide_eq_true f2
                exact f2 (m4.symm.trans hat)
              · next hk =>
                rw [if_neg hk] at hm
                obtain ⟨a3, b3, m1, m2, m3⟩ := hm
                exact ⟨a3, b3, m1, m2, by rw [bq_G_eq (by funext j; exact if_neg (by omega))]; exact m3⟩
        · cases h
      · cases h
  · cases h
set_option maxHeartbeats 2000000 in
theorem b_j3_ok {d : Nat} (hx : p.tables.exec = Jvm.exec) (hb : c.code = cc) (hml : c.maxLocals = ls.size) (hown : s.vm.findClass own = some m.cls) (hT : ∀ w, w ∈ lw_tbl → goodWord w = true → w.before args s = true) (hd : decode cc pc = .ok (i, len)) (hchk : b_ck3 own i aux = true)
    (ht : bs_ok nu g t) (hS : b_S B nu st vs) (hfr : d ≤ R.frames) (hlo : 36 * d ≤ R.locals) (hc : cells ≤ R.cells) (hs : slots ≤ R.slots) {rs : List (List BV × BS)} (h : b_j3 d i len aux st t = some rs)
    (k : ∀ r ∈ rs, ∀ (vs' : List Value), bs_ok nu g r.2 → b_S B nu r.1 vs' → W p l e R s m args below meth c H locs cells slots Q (F0 m (pc + len) ls vs')) : W p l e R s m args below meth c H locs cells slots Q (F0 m pc ls vs) := by
  unfold b_j3 at h
  split at h
  · next ix w t1 t2 t3 t4 y x r =>
    match vs, hS with
    | [], hS => exact hS.elim
    | [_], ⟨_, hS⟩ => exact hS.elim
    | vy :: vx :: vs, ⟨hy, hx2, hS2⟩ =>
      by_cases hcond : len = 3 ∧ 1 ≤ d ∧ (r.map bv_wd).sum ≤ 8 ∧ x.1 = y.1 ∧ x.1 = (if w = 0 ∨ w = 1 then 0 else 1)
      case neg => rw [if_neg hcond] at h; cases h
      case pos =>
        rw [if_pos hcond] at h
        cases h
        obtain ⟨rfl, hd1, h8, htag, hw⟩ := hcond
        have hsum := b_S_sum hS2
        have hchk : (ai_w t3 (.initialized "java/lang/Math") && (if w = 0 then ai_w t1 (.methodLink own ix Lib.Math.max.name) && (ai_w t2 (.static Lib.Math.max.name) && ai_w t4 (.code Lib.Math.max.name Lib.Math.max.code 2 (some .int)))
          else if w = 1 then ai_w t1 (.methodLink own ix Lib.Math.min.name) && (ai_w t2 (.static Lib.Math.min.name) && ai_w t4 (.code Lib.Math.min.name Lib.Math.min.code 2 (some .int)))
          else ai_w t1 (.methodLink own ix Lib.MathLoose.min_long.x) && (ai_w t2 (.static Lib.MathLoose.min_long.x) && ai_w t4 (.code Lib.MathLoose.min_long.x Lib.MathLoose.min_long.code 4 (some .long))))) = true := hchk
        rw [Bool.and_eq_true] at hchk
        obtain ⟨k3, hchk⟩ := hchk
        have g3 := hT _ (ai_w_ok k3).1 (ai_w_ok k3).2
        by_cases w0 : w = 0
        · subst w0
          rw [if_pos rfl] at hchk k
          rw [if_pos (Or.inl rfl)] at hw
          simp only [Bool.and_eq_true] at hchk
          obtain ⟨q1, q2, q4⟩ := hchk
          obtain ⟨a, rfl, h2⟩ := bv_N0 hw hx2
          obtain ⟨b, rfl, h3⟩ := bv_N0 (htag.symm.trans hw) hy
          refine va_mmax hx hb hml hown (hT _ (ai_w_ok q1).1 (ai_w_ok q1).2) (hT _ (ai_w_ok q2).1 (ai_w_ok q2).2) g3 (hT _ (ai_w_ok q4).1 (ai_w_ok q4).2) (by omega) (by omega) hc hs hd ?_
          by_cases hlt : a < b
          · rw [if_pos hlt]
            have hlt := Int32.lt_iff_toInt_lt.mp hlt
            obtain ⟨u, u1, u2⟩ := b_cnd_ok (spl := false) (k := .lt) ht (li_e_sub h2 h3) (by show a.toInt - b.toInt < 0; omega)
            exact k _ (List.mem_append_left _ (List.mem_map.mpr ⟨u, u1, rfl⟩)) _ u2 ⟨hy, hS2⟩
          · rw [if_neg hlt]
            have hlt : ¬ a.toInt < b.toInt := fun z => hlt (Int32.lt_iff_toInt_lt.mpr z)
            obtain ⟨u, u1, u2⟩ := b_cnd_ok (spl := false) (k := .ge) ht (li_e_sub h2 h3) (by show 0 ≤ a.toInt - b.toInt; omega)
            exact k _ (List.mem_append_right _ (List.mem_map.mpr ⟨u, u1, rfl⟩)) _ u2 ⟨hx2, hS2⟩
        · rw [if_neg w0] at hchk k
          by_cases w1 : w = 1
          · subst w1
            rw [if_pos rfl] at hchk
            rw [if_pos (Or.inr rfl)] at hw
            simp only [Bool.and_eq_true] at hchk
            obtain ⟨q1, q2, q4⟩ := hchk
            obtain ⟨a, rfl, h2⟩ := bv_N0 hw hx2
            obtain ⟨b, rfl, h3⟩ := bv_N0 (htag.symm.trans hw) hy
            refine va_mmin hx hb hml hown (hT _ (ai_w_ok q1).1 (ai_w_ok q1).2) (hT _ (ai_w_ok q2).1 (ai_w_ok q2).2) g3 (hT _ (ai_w_ok q4).1 (ai_w_ok q4).2) (by omega) (by omega) hc hs hd ?_
            by_cases hlt : b < a
            · rw [if_pos hlt]
              have hlt := Int32.lt_iff_toInt_lt.mp hlt
              obtain ⟨u, u1, u2⟩ := b_cnd_ok (spl := false) (k := .gt) ht (li_e_sub h2 h3) (by show 0 < a.toInt - b.toInt; omega)
              exact k _ (List.mem_append_left _ (List.mem_map.mpr ⟨u, u1, rfl⟩)) _ u2 ⟨hy, hS2⟩
            · rw [if_neg hlt]
              have hlt : ¬ b.toInt < a.toInt := fun z => hlt (Int32.lt_iff_toInt_lt.mpr z)
              obtain ⟨u, u1, u2⟩ := b_cnd_ok (spl := false) (k := .le) ht (li_e_sub h2 h3) (by show a.toInt - b.toInt ≤ 0; omega)
              exact k _ (List.mem_append_right _ (List.mem_map.mpr ⟨u, u1, rfl⟩)) _ u2 ⟨hx2, hS2⟩
          · rw [if_neg w1] at hchk
            rw [if_neg (fun z => z.elim w0 w1)] at hw
            simp only [Bool.and_eq_true] at hchk
            obtain ⟨q1, q2, q4⟩ := hchk
            obtain ⟨a, rfl, h2⟩ := bv_N1 hw hx2
            obtain ⟨b, rfl, h3⟩ := bv_N1 (htag.symm.trans hw) hy
            refine va_mmin_long hx hb hml hown (hT _ (ai_w_ok q1).1 (ai_w_ok q1).2) (hT _ (ai_w_ok q2).1 (ai_w_ok q2).2) g3 (hT _ (ai_w_ok q4).1 (ai_w_ok q4).2) (by omega) (by omega) hc hs hd ?_
            by_cases hlt : b < a
            · rw [if_pos hlt]
              have hlt := Int64.lt_iff_toInt_lt.mp hlt
              obtain ⟨u, u1, u2⟩ := b_cnd_ok (spl := false) (k := .gt) ht (li_e_sub h2 h3) (by show 0 < a.toInt - b.toInt; omega)
              exact k _ (List.mem_append_left _ (List.mem_map.mpr ⟨u, u1, rfl⟩)) _ u2 ⟨hy, hS2⟩
            · rw [if_neg hlt]
              have hlt : ¬ b.toInt < a.toInt := fun z => hlt (Int64.lt_iff_toInt_lt.mpr z)
              obtain ⟨u, u1, u2⟩ := b_cnd_ok (spl := false) (k := .le) ht (li_e_sub h2 h3) (by show a.toInt - b.toInt ≤ 0; omega)
              exact k _ (List.mem_append_right _ (List.mem_map.mpr ⟨u, u1, rfl⟩)) _ u2 ⟨hx2, hS2⟩
  · cases h
end BJ
