/-! ===== machine B: values, states, numbers ===== -/
/-- a number (0 an int, 1 a long, 2 an int with the form's sign) with its form; a reference to a place of a kind; null (0), a reference (1), another thing -/
abbrev BV : Type := (Nat × Li) ⊕ (Nat × Li) ⊕ Nat
abbrev BLo : Type := List (Nat × BV)
/-- kind, place, index, what is there -/
abbrev BCA : Type := List (Nat × Li × Li × Li)
/-- bounds of the names, facts, what is known of the world -/
abbrev BS : Type := LB × List Li × BCA
def bv_N (nu : List Int) (q : Nat × Li) (v : Value) : Prop := if q.1 = 0 then ∃ x : Int32, v = .int x ∧ li_e nu q.2 = some x.toInt else if q.1 = 1 then ∃ x : Int64, v = .long x ∧ li_e nu q.2 = some x.toInt else ∃ (x : Int32) (z : Int), v = .int x ∧ li_e nu q.2 = some z ∧ (x.toInt < 0 ↔ z < 0) ∧ (0 < x.toInt ↔ 0 < z)
def bv_X (B : BE) (n : Nat) (v : Value) : Prop := if n = 0 then v = .null else if n = 1 then ∃ a, v = .ref a else v = .ref (b_xo B n)
def bv_V (B : BE) (nu : List Int) : BV → Value → Prop
  | .inl q, v => bv_N nu q v
  | .inr (.inl q), v => ∃ P : Nat, v = .ref (b_ad B P) ∧ li_e nu q.2 = some (P : Int) ∧ P < 230 ∧ bk_at P = q.1
  | .inr (.inr n), v => bv_X B n v
def bv_cat : BV → Nat
  | .inl q => if q.1 = 1 then 2 else 1
  | .inr _ => 3
def bv_wd (a : BV) : Nat := if bv_cat a = 2 then 2 else 1
theorem bv_V.mono {B : BE} {nu nv : List Int} (h : nu_le nu nv) : ∀ {a : BV} {v : Value}, bv_V B nu a v → bv_V B nv a v
  | .inl q, v, k => by
    have k : bv_N nu q v := k
    show bv_N nv q v
    unfold bv_N at k ⊢
    split
    · next e =>
      rw [if_pos e] at k
      obtain ⟨x, k1, k2⟩ := k
      exact ⟨x, k1, li_e_mono h k2⟩
    · next e =>
      rw [if_neg e] at k
      split
      · next e2 =>
        rw [if_pos e2] at k
        obtain ⟨x, k1, k2⟩ := k
        exact ⟨x, k1, li_e_mono h k2⟩
      · next e2 =>
        rw [if_neg e2] at k
        obtain ⟨x, z, k1, k2, k3⟩ := k
        exact ⟨x, z, k1, li_e_mono h k2, k3⟩
  | .inr (.inl _), _, ⟨P, k1, k2, k3⟩ => ⟨P, k1, li_e_mono h k2, k3⟩
  | .inr (.inr _), _, k => k
theorem bv_i {B : BE} {nu : List Int} {f : Li} {v : Value} : bv_V B nu (.inl (0, f)) v ↔ ∃ x : Int32, v = .int x ∧ li_e nu f = some x.toInt := Iff.rfl
theorem bv_l {B : BE} {nu : List Int} {f : Li} {v : Value} : bv_V B nu (.inl (1, f)) v ↔ ∃ x : Int64, v = .long x ∧ li_e nu f = some x.toInt := Iff.rfl
/-- what the rows of the first machine want to know of a value -/
theorem bv_av {B : BE} {nu : List Int} (E : AE) (ws : va_W) : ∀ {b : BV} {v : Value}, bv_V B nu b v → ∃ a : AV, ai_cat a = bv_cat b ∧ ai_V E ws a v
  | .inl q, v, k => by
    have k : bv_N nu q v := k
    show ∃ a : AV, ai_cat a = (if q.1 = 1 then 2 else 1) ∧ ai_V E ws a v
    unfold bv_N at k
    split at k
    · next e =>
      obtain ⟨x, rfl, -⟩ := k
      exact ⟨.inl x, by rw [if_neg (by omega)]; rfl, rfl⟩
    · split at k
      · next e2 =>
        obtain ⟨x, rfl, -⟩ := k
        exact ⟨.inr (.inr (.inl (some x))), by rw [if_pos e2]; rfl, rfl⟩
      · next e2 =>
        obtain ⟨x, z, rfl, -⟩ := k
        exact ⟨.inl x, by rw [if_neg e2]; rfl, rfl⟩
  | .inr (.inl _), v, ⟨P, k1, _⟩ => ⟨.inr (.inr (.inr (.inr 0))), rfl, ⟨_, k1⟩⟩
  | .inr (.inr n), v, k => by
    have k : bv_X B n v := k
    unfold bv_X at k
    split at k
    · exact ⟨.inr (.inr (.inr (.inl none))), rfl, k⟩
    · split at k
      · exact ⟨.inr (.inr (.inr (.inr 0))), rfl, k⟩
      · exact ⟨.inr (.inr (.inr (.inr 0))), rfl, ⟨_, k⟩⟩
theorem bv_V_wd {B : BE} {nu : List Int} {b : BV} {v : Value} (k : bv_V B nu b v) : v.category = bv_wd b := by
  obtain ⟨a, h1, h2⟩ := bv_av (0, 0, 0, 0, fun _ => 0) [] k
  rw [ai_V_wd h2]
  unfold ai_wd bv_wd
  rw [h1]
theorem bv_V_ref {B : BE} {nu : List Int} {b : BV} {v : Value} (h : bv_cat b = 3) (k : bv_V B nu b v) : v = .null ∨ ∃ x : Nat, v = .ref x := by
  obtain ⟨a, h1, h2⟩ := bv_av (0, 0, 0, 0, fun _ => 0) [] k
  exact ai_V_ref (h1.trans h) h2
def b_S (B : BE) (nu : List Int) : List BV → List Value → Prop
  | [], [] => True
  | a :: as, v :: vs => bv_V B nu a v ∧ b_S B nu as vs
  | _, _ => False
def b_L (B : BE) (nu : List Int) : BLo → List (Nat × Value) → Prop
  | [], [] => True
  | a :: as, v :: vs => (a.1 = v.1 ∧ bv_V B nu a.2 v.2) ∧ b_L B nu as vs
  | _, _ => False
theorem b_S.mono {B : BE} {nu nv : List Int} (h : nu_le nu nv) : ∀ {a : List BV} {v : List Value}, b_S B nu a v → b_S B nv a v
  | [], [], k => k
  | _ :: _, _ :: _, ⟨k, r⟩ => ⟨k.mono h, b_S.mono h r⟩
  | [], _ :: _, k => k
  | _ :: _, [], k => k
theorem b_L.mono {B : BE} {nu nv : List Int} (h : nu_le nu nv) : ∀ {a : BLo} {v : List (Nat × Value)}, b_L B nu a v → b_L B nv a v
  | [], [], k => k
  | _ :: _, _ :: _, ⟨⟨e, k⟩, r⟩ => ⟨⟨e, k.mono h⟩, b_L.mono h r⟩
  | [], _ :: _, k => k
  | _ :: _, [], k => k
theorem b_find {B : BE} {nu : List Int} (j : Nat) : ∀ {lo : BLo} {lv : List (Nat × Value)}, b_L B nu lo lv → ∀ {q : Nat × BV}, lo.find? (fun q => q.1 == j) = some q → ∃ (k : Nat) (v : Value), lv[k]? = some (j, v) ∧ bv_V B nu q.2 v
  | [], _, _, _, h => by cases h
  | a :: as, [], k, _, _ => k.elim
  | a :: as, v :: vs, ⟨⟨e, k⟩, r⟩, q, h => by
    rw [List.find?_cons] at h
    by_cases c : (a.1 == j) = true
    · rw [c] at h
      cases h
      exact ⟨0, v.2, by rw [show j = v.1 from (beq_iff_eq.mp c).symm.trans e]; rfl, k⟩
    · rw [Bool.not_eq_true] at c
      rw [c] at h
      obtain ⟨k2, w, h1, h2⟩ := b_find j r h
      exact ⟨k2 + 1, w, h1, h2⟩
def b_fl (j c : Nat) (q : Nat × BV) : Bool := if c = 2 then !(q.1 == j) && (!(q.1 == j + 1) && !(q.1 + 1 == j && bv_wd q.2 == 2)) else !(q.1 == j) && !(q.1 + 1 == j && bv_wd q.2 == 2)
theorem b_filter {B : BE} {nu : List Int} (j c : Nat) : ∀ {lo : BLo} {lv : List (Nat × Value)}, b_L B nu lo lv → b_L B nu (lo.filter (b_fl j c)) (lv.filter (ai_fv j c))
  | [], [], _ => trivial
  | [], _ :: _, k => k.elim
  | _ :: _, [], k => k.elim
  | a :: as, v :: vs, ⟨⟨e, k⟩, r⟩ => by
    have hs : b_fl j c a = ai_fv j c v := by unfold b_fl ai_fv; rw [bv_V_wd k, e]
    rw [List.filter_cons, List.filter_cons, hs]
    by_cases h : ai_fv j c v = true
    · rw [if_pos h, if_pos h]; exact ⟨⟨e, k⟩, b_filter j c r⟩
    · rw [if_neg h, if_neg h]; exact b_filter j c r
theorem b_S_len {B : BE} {nu : List Int} : ∀ {fs : List BV} {vs : List Value}, b_S B nu fs vs → fs.length = vs.length
  | [], [], _ => rfl
  | [], _ :: _, h => h.elim
  | _ :: _, [], h => h.elim
  | _ :: _, _ :: _, h => by rw [List.length_cons, List.length_cons, b_S_len h.2]
/-! states -/
/-- numbers that are known by name only: shifts, masks, bytes of a long, and whether they are signs of a text -/
def bq_b (w s : Int) : Int := ((Int64.ofInt w >>> ((Int32.ofInt s).toInt64 &&& 63)) &&& 255).toInt
def bq_g (c : Int) : Bool := (decide (97 ≤ c) && decide (c ≤ 122)) || (decide (c = 46) || (decide (c = 47) || decide (c = 32)))
def bq_all (w : Int) : Nat → Bool
  | 0 => true
  | n + 1 => bq_all w n && bq_g (bq_b w (8 * (n : Int)))
def bq_F (k : Nat) (a b : Int) : Int :=
  if k = 1000 then (Int64.ofInt a <<< ((Int32.ofInt b).toInt64 &&& 63)).toInt
  else if k = 1001 then (Int64.ofInt a &&& Int64.ofInt b).toInt
  else if k = 1002 then (Int64.ofInt a ||| Int64.ofInt b).toInt
  else if k = 1003 then bq_b a b
  else if k = 1004 then (if bq_g (bq_b a b) then 1 else 0)
  else if k = 1005 then (if bq_all a b.toNat then 1 else 0)
  else if k = 1006 then (Int64.ofInt a >>> ((Int32.ofInt b).toInt64 &&& 63)).toInt
  else if k = 1007 then ((Int64.ofInt a).toUInt64 >>> ((Int32.ofInt b).toInt64.toUInt64 &&& Int64.toUInt64 63)).toInt64.toInt
  else if k = 1011 then (Int64.ofInt a).toInt32.toInt
  else 0
/-- the law's script lies at the place 300 -/
def bq_G (g : BG) (k : Nat) (a b : Int) : Int := if k = 1010 then g 300 b.toNat else bq_F k a b
theorem bq_G_F {g : BG} {k : Nat} (h : k ≠ 1010) (a b : Int) : bq_G g k a b = bq_F k a b := if_neg h
theorem bq_G_eq {g g' : BG} (h : g' 300 = g 300) (k : Nat) (a b : Int) : bq_G g' k a b = bq_G g k a b := by
  unfold bq_G
  rw [h]
def bc_e (nu : List Int) (g : BG) (e : Nat × Li × Li × Li) : Prop := if e.1 < 1000 then ∃ (P X : Nat), li_e nu e.2.1 = some (P : Int) ∧ li_e nu e.2.2.1 = some (X : Int) ∧ P < 230 ∧ bk_at P = e.1 ∧ li_e nu e.2.2.2 = some (g P X)
  else ∃ a b : Int, li_e nu e.2.1 = some a ∧ li_e nu e.2.2.1 = some b ∧ li_e nu e.2.2.2 = some (bq_G g e.1 a b)
def bc_ok (nu : List Int) (g : BG) (ca : BCA) : Prop := ∀ e, e ∈ ca → bc_e nu g e
def bs_ok (nu : List Int) (g : BG) (s : BS) : Prop := lb_ok nu s.1 ∧ lf_ok nu s.2.1 ∧ bc_ok nu g s.2.2
theorem bc_e.mono {nu nv : List Int} (h : nu_le nu nv) {g : BG} {e : Nat × Li × Li × Li} (k : bc_e nu g e) : bc_e nv g e := by
  unfold bc_e at k ⊢
  split
  · next c =>
    rw [if_pos c] at k
    obtain ⟨P, X, h1, h2, h3, h4, h5⟩ := k
    exact ⟨P, X, li_e_mono h h1, li_e_mono h h2, h3, h4, li_e_mono h h5⟩
  · next c =>
    rw [if_neg c] at k
    obtain ⟨a, b, h1, h2, h3⟩ := k
    exact ⟨a, b, li_e_mono h h1, li_e_mono h h2, li_e_mono h h3⟩
theorem bc_ok.mono {nu nv : List Int} (h : nu_le nu nv) {g : BG} {ca : BCA} (k : bc_ok nu g ca) : bc_ok nv g ca := fun e he => (k e he).mono h
def bs_new (s : BS) (lo hi : Int) : BS × Li := ((s.1 ++ [(lo, hi)], s.2.1, s.2.2), li_n s.1.length)
theorem bs_new_ok {nu : List Int} {g : BG} {s : BS} (h : bs_ok nu g s) {lo hi x : Int} (h1 : lo ≤ x) (h2 : x ≤ hi) : bs_ok (nu ++ [x]) g (bs_new s lo hi).1 ∧ li_e (nu ++ [x]) (bs_new s lo hi).2 = some x :=
  ⟨⟨h.1.new (q := (lo, hi)) h1 h2, h.2.1.mono nu_le.ap, h.2.2.mono nu_le.ap⟩, li_e_n (nu_new h.1 x)⟩
def bs_ge (s : BS) (a : Li) : Bool := le_f s.1 s.2.1 a
theorem bs_ge_ok {nu : List Int} {g : BG} {s : BS} (h : bs_ok nu g s) {a : Li} (k : bs_ge s a = true) {x : Int} (hx : li_e nu a = some x) : 0 ≤ x := le_f_ok h.1 h.2.1 k hx
def bs_fit (s : BS) (lo hi : Int) (a : Li) : Bool := bs_ge s (li_sh (-lo) a) && bs_ge s (li_sub (li_c hi) a)
theorem bs_fit_ok {nu : List Int} {g : BG} {s : BS} (h : bs_ok nu g s) {lo hi : Int} {a : Li} (k : bs_fit s lo hi a = true) {x : Int} (hx : li_e nu a = some x) : lo ≤ x ∧ x ≤ hi := by
  unfold bs_fit at k
  rw [Bool.and_eq_true] at k
  have h1 := bs_ge_ok h k.1 (li_e_sh (-lo) hx)
  have h2 := bs_ge_ok h k.2 (li_e_sub (li_e_c nu hi) hx)
  omega
def bs_eq (s : BS) (a b : Li) : Bool := decide (a = b) || (bs_ge s (li_sub a b) && bs_ge s (li_sub b a))
theorem bs_eq_ok {nu : List Int} {g : BG} {s : BS} (h : bs_ok nu g s) {a b : Li} (k : bs_eq s a b = true) {x y : Int} (hx : li_e nu a = some x) (hy : li_e nu b = some y) : x = y := by
  unfold bs_eq at k
  rw [Bool.or_eq_true, Bool.and_eq_true] at k
  rcases k with k | k
  · rw [of_decide_eq_true k, hy] at hx
    exact (Option.some.inj hx).symm
  · have h1 := bs_ge_ok h k.1 (li_e_sub hx hy)
    have h2 := bs_ge_ok h k.2 (li_e_sub hy hx)
    omega
/-- a cheaper question where there are many facts -/
def bs_g1 (s : BS) (a : Li) : Bool := if s.2.1.length ≤ 6 then bs_ge s a else le_0 s.1 a || le_1 s.1 s.2.1 a
theorem bs_g1_ok {nu : List Int} {g : BG} {s : BS} (h : bs_ok nu g s) {a : Li} (k : bs_g1 s a = true) {x : Int} (hx : li_e nu a = some x) : 0 ≤ x := by
  unfold bs_g1 at k
  split at k
  · exact bs_ge_ok h k hx
  · rw [Bool.or_eq_true] at k
    rcases k with k | k
    · exact le_0_ok h.1 k hx
    · exact le_1_ok h.1 h.2.1 k hx
/-- what is known more when a form is not below 0 -/
def bs_as (s : BS) (a : Li) : Option BS := if bs_g1 s (li_sub (li_c (-1)) a) then none else if a ∈ s.2.1 then some s else match lt_as s.1 s.2.1 a with
  | some r => some (r.1, r.2, s.2.2)
  | none => none
theorem bs_as_ok {nu : List Int} {g : BG} {s : BS} (h : bs_ok nu g s) {a : Li} {x : Int} (hx : li_e nu a = some x) (h0 : 0 ≤ x) : ∃ t, bs_as s a = some t ∧ bs_ok nu g t := by
  unfold bs_as
  rw [if_neg (by
    intro k
    have := bs_g1_ok h k (li_e_sub (li_e_c nu (-1)) hx)
    omega)]
  split
  · exact ⟨s, rfl, h⟩
  · obtain ⟨r, h1, h2, h3⟩ := lt_as_ok h.1 h.2.1 hx h0
    rw [h1]
    exact ⟨_, rfl, h2, h3, h.2.2⟩
def b_rel (k : Jvm.ClassFile.Cond) (z : Int) : Prop := match k with
  | .eq => z = 0
  | .ne => z ≠ 0
  | .lt => z < 0
  | .ge => 0 ≤ z
  | .gt => 0 < z
  | .le => z ≤ 0
def b_neg (k : Jvm.ClassFile.Cond) : Jvm.ClassFile.Cond := match k with
  | .eq => .ne
  | .ne => .eq
  | .lt => .ge
  | .ge => .lt
  | .gt => .le
  | .le => .gt
theorem b_rel_neg {k : Jvm.ClassFile.Cond} {z : Int} (h : ¬ b_rel k z) : b_rel (b_neg k) z := by
  cases k <;> simp only [b_rel, b_neg] at h ⊢ <;> omega
def b_tl (o : Option BS) : List BS := match o with
  | some s => [s]
  | none => []
theorem b_tl_in {o : Option BS} {s : BS} (h : o = some s) : s ∈ b_tl o := by subst h; exact List.mem_singleton.mpr rfl
/-- the states in which a form is in a relation to 0 -/
def b_cnd (spl : Bool) (k : Jvm.ClassFile.Cond) (s : BS) (d : Li) : List BS := match k with
  | .lt => b_tl (bs_as s (li_sub (li_c (-1)) d))
  | .ge => b_tl (bs_as s d)
  | .gt => b_tl (bs_as s (li_sh (-1) d))
  | .le => b_tl (bs_as s (li_sub (li_c 0) d))
  | .eq => match bs_as s d with
    | some t => b_tl (bs_as t (li_sub (li_c 0) d))
    | none => []
  | .ne => if bs_g1 s d then b_tl (bs_as s (li_sh (-1) d)) else if bs_g1 s (li_sub (li_c 0) d) then b_tl (bs_as s (li_sub (li_c (-1)) d)) else if spl then b_tl (bs_as s (li_sh (-1) d)) ++ b_tl (bs_as s (li_sub (li_c (-1)) d)) else [s]
theorem b_cnd_ok {nu : List Int} {g : BG} {s : BS} (h : bs_ok nu g s) {spl : Bool} {k : Jvm.ClassFile.Cond} {d : Li} {z : Int} (hz : li_e nu d = some z) (hr : b_rel k z) : ∃ t, t ∈ b_cnd spl k s d ∧ bs_ok nu g t := by
  have hlt : z < 0 → ∃ t, bs_as s (li_sub (li_c (-1)) d) = some t ∧ bs_ok nu g t := fun q => bs_as_ok h (li_e_sub (li_e_c nu (-1)) hz) (by omega)
  have hgt : 0 < z → ∃ t, bs_as s (li_sh (-1) d) = some t ∧ bs_ok nu g t := fun q => bs_as_ok h (li_e_sh (-1) hz) (by omega)
  cases k with
  | lt =>
    obtain ⟨t, h1, h2⟩ := hlt hr
    exact ⟨t, b_tl_in h1, h2⟩
  | gt =>
    obtain ⟨t, h1, h2⟩ := hgt hr
    exact ⟨t, b_tl_in h1, h2⟩
  | ge =>
    obtain ⟨t, h1, h2⟩ := bs_as_ok h hz hr
    exact ⟨t, b_tl_in h1, h2⟩
  | le =>
    have hr : z ≤ 0 := hr
    obtain ⟨t, h1, h2⟩ := bs_as_ok h (li_e_sub (li_e_c nu 0) hz) (by omega)
    exact ⟨t, b_tl_in h1, h2⟩
  | eq =>
    have hr : z = 0 := hr
    obtain ⟨t, h1, h2⟩ := bs_as_ok h hz (by omega)
    obtain ⟨u, h3, h4⟩ := bs_as_ok h2 (li_e_sub (li_e_c nu 0) hz) (by omega)
    refine ⟨u, ?_, h4⟩
    show u ∈ (match bs_as s d with
      | some t => b_tl (bs_as t (li_sub (li_c 0) d))
      | none => [])
    rw [h1]
    exact b_tl_in h3
  | ne =>
    have hr : z ≠ 0 := hr
    show ∃ t, t ∈ (if bs_g1 s d then b_tl (bs_as s (li_sh (-1) d)) else if bs_g1 s (li_sub (li_c 0) d) then b_tl (bs_as s (li_sub (li_c (-1)) d)) else if spl then b_tl (bs_as s (li_sh (-1) d)) ++ b_tl (bs_as s (li_sub (li_c (-1)) d)) else [s]) ∧ bs_ok nu g t
    split
    · next c =>
      have := bs_g1_ok h c hz
      obtain ⟨t, h1, h2⟩ := hgt (by omega)
      exact ⟨t, b_tl_in h1, h2⟩
    · split
      · next c =>
        have := bs_g1_ok h c (li_e_sub (li_e_c nu 0) hz)
        obtain ⟨t, h1, h2⟩ := hlt (by omega)
        exact ⟨t, b_tl_in h1, h2⟩
      · split
        · rcases Int.lt_or_gt_of_ne hr with q | q
          · obtain ⟨t, h1, h2⟩ := hlt q
            exact ⟨t, List.mem_append_right _ (b_tl_in h1), h2⟩
          · obtain ⟨t, h1, h2⟩ := hgt q
            exact ⟨t, List.mem_append_left _ (b_tl_in h1), h2⟩
        · exact ⟨s, List.mem_singleton.mpr rfl, h⟩
/-! numbers that fit, or new names -/
def bs_ti (s : BS) : BS × Li := bs_new s (-2147483648) 2147483647
def bs_tj (s : BS) : BS × Li := bs_new s (-9223372036854775808) 9223372036854775807
def bs_i (s : BS) (a : Li) : BS × Li := if bs_fit s (-2147483648) 2147483647 a then (s, a) else bs_ti s
def bs_j (s : BS) (a : Li) : BS × Li := if bs_fit s (-9223372036854775808) 9223372036854775807 a then (s, a) else bs_tj s
/-- a form for a number, perhaps with a new name -/
def bs_R (nu : List Int) (g : BG) (r : BS × Li) (x : Int) : Prop := ∃ nv, nu_le nu nv ∧ bs_ok nv g r.1 ∧ li_e nv r.2 = some x
theorem bs_new_R {nu : List Int} {g : BG} {s : BS} (h : bs_ok nu g s) {lo hi x : Int} (h1 : lo ≤ x) (h2 : x ≤ hi) : bs_R nu g (bs_new s lo hi) x := ⟨nu ++ [x], nu_le.ap, bs_new_ok h h1 h2⟩
theorem bs_ti_R {nu : List Int} {g : BG} {s : BS} (h : bs_ok nu g s) (x : Int32) : bs_R nu g (bs_ti s) x.toInt := bs_new_R h (fb_rng x).1 (by have := (fb_rng x).2; omega)
theorem bs_tj_R {nu : List Int} {g : BG} {s : BS} (h : bs_ok nu g s) (x : Int64) : bs_R nu g (bs_tj s) x.toInt := bs_new_R h (fb_rngL x).1 (by have := (fb_rngL x).2; omega)
theorem bs_i_R {nu : List Int} {g : BG} {s : BS} (h : bs_ok nu g s) {a : Li} {z : Int} (hz : li_e nu a = some z) {x : Int32} (hx : -2147483648 ≤ z → z < 2147483648 → x.toInt = z) : bs_R nu g (bs_i s a) x.toInt := by
  unfold bs_i
  split
  · next c =>
    have := bs_fit_ok h c hz
    rw [hx this.1 (by omega)]
    exact ⟨nu, nu_le.rf, h, hz⟩
  · exact bs_ti_R h x
theorem bs_j_R {nu : List Int} {g : BG} {s : BS} (h : bs_ok nu g s) {a : Li} {z : Int} (hz : li_e nu a = some z) {x : Int64} (hx : -9223372036854775808 ≤ z → z < 9223372036854775808 → x.toInt = z) : bs_R nu g (bs_j s a) x.toInt := by
  unfold bs_j
  split
  · next c =>
    have := bs_fit_ok h c hz
    rw [hx this.1 (by omega)]
    exact ⟨nu, nu_le.rf, h, hz⟩
  · exact bs_tj_R h x
def li_k (s : BS) (a : Li) : Option Int := if (li_v s.1 a).1 = (li_v s.1 a).2 then some (li_v s.1 a).1 else none
theorem li_k_ok {nu : List Int} {g : BG} {s : BS} (h : bs_ok nu g s) {a : Li} {c : Int} (k : li_k s a = some c) {x : Int} (hx : li_e nu a = some x) : x = c := by
  unfold li_k at k
  split at k
  · next e =>
    cases k
    have := li_v_ok h.1 hx
    omega
  · cases k
