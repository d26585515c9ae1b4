/-! ===== machine B: kinds of cells, and the world as a function of numbers ===== -/
theorem fb_rng (x : Int32) : -2147483648 ≤ x.toInt ∧ x.toInt < 2147483648 := by
  have h1 := Int32.le_toInt x
  have h2 := Int32.toInt_lt x
  omega
theorem fb_bmod {z : Int} (h1 : -2147483648 ≤ z) (h2 : z < 2147483648) : z.bmod (2 ^ 32) = z := by
  rw [Int.bmod_eq_of_le (by omega) (by omega)]
theorem fb_addI {x y : Int32} (h1 : -2147483648 ≤ x.toInt + y.toInt) (h2 : x.toInt + y.toInt < 2147483648) : (x + y).toInt = x.toInt + y.toInt := by
  rw [Int32.toInt_add, fb_bmod h1 h2]
theorem fb_subI {x y : Int32} (h1 : -2147483648 ≤ x.toInt - y.toInt) (h2 : x.toInt - y.toInt < 2147483648) : (x - y).toInt = x.toInt - y.toInt := by
  rw [Int32.toInt_sub, fb_bmod h1 h2]
theorem fb_mulI {x y : Int32} (h1 : -2147483648 ≤ x.toInt * y.toInt) (h2 : x.toInt * y.toInt < 2147483648) : (x * y).toInt = x.toInt * y.toInt := by
  rw [Int32.toInt_mul, fb_bmod h1 h2]
theorem fb_ofI {z : Int} (h1 : -2147483648 ≤ z) (h2 : z < 2147483648) : (Int32.ofInt z).toInt = z := by
  rw [Int32.toInt_ofInt, fb_bmod h1 h2]
theorem fb_asI (x : Int32) : Int32.ofInt x.toInt = x := Int32.ofInt_toInt x
theorem fb_rngL (x : Int64) : -9223372036854775808 ≤ x.toInt ∧ x.toInt < 9223372036854775808 := by
  have h1 := Int64.le_toInt x
  have h2 := Int64.toInt_lt x
  omega
theorem fb_bmodL {z : Int} (h1 : -9223372036854775808 ≤ z) (h2 : z < 9223372036854775808) : z.bmod (2 ^ 64) = z := by
  rw [Int.bmod_eq_of_le (by omega) (by omega)]
theorem fb_addL {x y : Int64} (h1 : -9223372036854775808 ≤ x.toInt + y.toInt) (h2 : x.toInt + y.toInt < 9223372036854775808) : (x + y).toInt = x.toInt + y.toInt := by
  rw [Int64.toInt_add, fb_bmodL h1 h2]
theorem fb_subL {x y : Int64} (h1 : -9223372036854775808 ≤ x.toInt - y.toInt) (h2 : x.toInt - y.toInt < 9223372036854775808) : (x - y).toInt = x.toInt - y.toInt := by
  rw [Int64.toInt_sub, fb_bmodL h1 h2]
theorem fb_ofL {z : Int} (h1 : -9223372036854775808 ≤ z) (h2 : z < 9223372036854775808) : (Int64.ofInt z).toInt = z := by
  rw [Int64.toInt_ofInt, fb_bmodL h1 h2]
theorem fb_asL (x : Int64) : Int64.ofInt x.toInt = x := Int64.ofInt_toInt x
theorem fb_byte {x : Int32} (h1 : -128 ≤ x.toInt) (h2 : x.toInt < 128) : x.toInt8.toInt32 = x := by
  apply Int32.toInt_inj.1
  rw [Int8.toInt_toInt32, Int32.toInt_toInt8, Int.bmod_eq_of_le (by omega) (by omega)]
theorem fb_byte_rng (x : Int32) : -128 ≤ x.toInt8.toInt32.toInt ∧ x.toInt8.toInt32.toInt < 128 := by
  rw [Int8.toInt_toInt32]
  have h1 := Int8.le_toInt x.toInt8
  have h2 := Int8.toInt_lt x.toInt8
  omega
/-- an int (0) or a long (1) between two; a reference: the kind, and the place c0 + c1 * own place + c2 * index -/
abbrev BF : Type := (Nat × Int × Int) ⊕ (Nat × Int × Int × Int)
/-- an object (class, fields) or an array (its kind as in ai_ty, its length, its places) -/
abbrev BK : Type := (Nat × List BF) ⊕ (Nat × Nat × BF)
def bk_tab : List BK := [
  .inl (11, [.inr (1, 1, 0, 0), .inr (3, 3, 0, 0), .inr (5, 5, 0, 0), .inr (7, 7, 0, 0), .inr (12, 129, 0, 0), .inr (21, 145, 0, 0)]),
  .inl (0, [.inr (2, 1, 1, 0), .inl (0, 0, 320)]),
  .inr (0, 320, .inl (0, (-128), 127)),
  .inl (0, [.inr (4, 1, 1, 0), .inl (0, 0, 400)]),
  .inr (0, 400, .inl (0, (-128), 127)),
  .inl (0, [.inr (6, 1, 1, 0), .inl (0, 0, 60)]),
  .inr (0, 60, .inl (0, (-128), 127)),
  .inl (10, [.inr (8, 8, 0, 0), .inl (0, 1, 40)]),
  .inr (9, 40, .inr (9, 9, 0, 3)),
  .inl (5, [.inl (0, 0, 39), .inr (10, 1, 1, 0), .inl (0, (-2147483648), 2147483647), .inl (0, (-2147483648), 2147483647), .inl (0, (-2147483648), 2147483647), .inl (0, (-2147483648), 2147483647), .inl (0, 0, 1), .inl (0, 0, 1)]),
  .inl (0, [.inr (11, 1, 1, 0), .inl (0, 0, 24)]),
  .inr (0, 24, .inl (0, (-128), 127)),
  .inl (9, [.inr (7, 7, 0, 0), .inr (13, 130, 0, 0), .inr (16, 140, 0, 0), .inr (19, 143, 0, 0), .inl (0, 0, 1), .inl (0, 64, 160)]),
  .inl (4, [.inr (14, 131, 0, 0)]),
  .inr (7, 8, .inr (15, 132, 0, 1)),
  .inl (3, [.inl (0, 0, 1), .inl (0, (-2147483648), 2147483647), .inl (0, (-2147483648), 2147483647), .inl (0, 0, 1), .inl (0, 0, 1), .inl (1, (-9223372036854775808), 9223372036854775807), .inl (0, (-1), 39)]),
  .inl (2, [.inr (17, 141, 0, 0)]),
  .inl (0, [.inr (18, 1, 1, 0), .inl (0, 0, 160)]),
  .inr (0, 160, .inl (0, (-128), 127)),
  .inl (0, [.inr (20, 1, 1, 0), .inl (0, 0, 160)]),
  .inr (0, 160, .inl (0, (-128), 127)),
  .inl (6, [.inr (7, 7, 0, 0), .inr (22, 146, 0, 0), .inr (23, 147, 0, 0), .inr (29, 192, 0, 0), .inr (29, 196, 0, 0), .inr (33, 200, 0, 0)]),
  .inr (12, 4, .inr (24, 148, 0, 11)),
  .inr (1, 4, .inl (0, 0, 3)),
  .inl (8, [.inr (25, 1, 1, 0), .inr (26, 2, 1, 0), .inl (0, 0, 4)]),
  .inr (1, 4, .inl (0, (-2147483648), 2147483647)),
  .inr (5, 4, .inr (27, 1, 1, 2)),
  .inl (1, [.inr (28, 1, 1, 0), .inl (0, 0, 4)]),
  .inr (1, 4, .inl (0, (-2147483648), 2147483647)),
  .inl (7, [.inr (30, 1, 1, 0), .inr (32, 3, 1, 0), .inl (0, 0, 60), .inl (0, (-2147483648), 2147483647), .inl (0, 0, 1)]),
  .inl (1, [.inr (31, 1, 1, 0), .inl (0, 0, 4)]),
  .inr (1, 4, .inl (0, (-2147483648), 2147483647)),
  .inr (1, 60, .inl (0, (-2147483648), 2147483647)),
  .inl (1, [.inr (34, 1, 1, 0), .inl (0, 0, 8)]),
  .inr (1, 8, .inl (0, (-2147483648), 2147483647)),
  .inl (12, [.inl (0, 0, 4), .inl (0, 1, 40), .inr (36, 203, 0, 0), .inr (37, 204, 0, 0), .inr (38, 205, 0, 0), .inr (39, 206, 0, 0), .inr (40, 207, 0, 0), .inr (41, 208, 0, 0), .inr (42, 209, 0, 0), .inr (43, 210, 0, 0), .inr (44, 211, 0, 0), .inl (0, 0, 8), .inr (45, 212, 0, 0), .inr (46, 213, 0, 0), .inr (47, 214, 0, 0), .inr (48, 215, 0, 0), .inr (49, 216, 0, 0), .inl (0, 0, 320), .inr (50, 217, 0, 0), .inl (0, 0, 400), .inr (51, 218, 0, 0), .inl (0, 64, 160), .inl (0, 0, 1), .inl (0, 0, 160), .inl (0, 0, 255), .inl (0, 0, 240), .inl (0, 0, 60), .inr (52, 219, 0, 0), .inl (0, 0, 60), .inr (53, 220, 0, 0), .inr (54, 221, 0, 0), .inl (0, 0, 4), .inr (55, 222, 0, 0), .inl (0, 0, 39), .inr (56, 223, 0, 0), .inr (57, 224, 0, 0), .inr (58, 225, 0, 0), .inr (59, 226, 0, 0), .inr (60, 227, 0, 0), .inr (61, 228, 0, 0)]),
  .inr (1, 40, .inl (0, 0, 39)),
  .inr (1, 40, .inl (0, (-2147483648), 2147483647)),
  .inr (1, 40, .inl (0, 0, 24)),
  .inr (1, 40, .inl (0, (-2147483648), 2147483647)),
  .inr (3, 40, .inl (0, 0, 1)),
  .inr (3, 40, .inl (0, 0, 1)),
  .inr (1, 40, .inl (0, 0, 4)),
  .inr (1, 160, .inl (0, (-2147483648), 2147483647)),
  .inr (1, 960, .inl (0, (-2147483648), 2147483647)),
  .inr (1, 8, .inl (0, (-2147483648), 2147483647)),
  .inr (1, 8, .inl (0, 0, 39)),
  .inr (1, 8, .inl (0, (-2147483648), 2147483647)),
  .inr (2, 8, .inl (1, (-9223372036854775808), 9223372036854775807)),
  .inr (1, 8, .inl (0, 0, 39)),
  .inr (1, 320, .inl (0, 0, 255)),
  .inr (1, 400, .inl (0, (-2147483648), 2147483647)),
  .inr (1, 60, .inl (0, (-2147483648), 2147483647)),
  .inr (1, 60, .inl (0, 0, 60)),
  .inr (1, 60, .inl (0, 0, 60)),
  .inr (1, 4, .inl (0, 0, 39)),
  .inr (1, 4, .inl (0, 0, 3)),
  .inr (1, 4, .inl (0, 0, 4)),
  .inr (1, 16, .inl (0, (-2147483648), 2147483647)),
  .inr (1, 16, .inl (0, 0, 4)),
  .inr (1, 64, .inl (0, 0, 39)),
  .inr (1, 8, .inl (0, 0, 39)),
  .inr (2, 1, .inl (1, (-9223372036854775808), 9223372036854775807))]
def bk_pos : List Nat := [0, 1, 2, 3, 4, 5, 6, 7, 8, 9, 10, 11, 9, 10, 11, 9, 10, 11, 9, 10, 11, 9, 10, 11, 9, 10, 11, 9, 10, 11, 9, 10, 11, 9, 10, 11, 9, 10, 11, 9, 10, 11, 9, 10, 11, 9, 10, 11, 9, 10, 11, 9, 10, 11, 9, 10, 11, 9, 10, 11, 9, 10, 11, 9, 10, 11, 9, 10, 11, 9, 10, 11, 9, 10, 11, 9, 10, 11, 9, 10, 11, 9, 10, 11, 9, 10, 11, 9, 10, 11, 9, 10, 11, 9, 10, 11, 9, 10, 11, 9, 10, 11, 9, 10, 11, 9, 10, 11, 9, 10, 11, 9, 10, 11, 9, 10, 11, 9, 10, 11, 9, 10, 11, 9, 10, 11, 9, 10, 11, 12, 13, 14, 15, 15, 15, 15, 15, 15, 15, 15, 16, 17, 18, 19, 20, 21, 22, 23, 24, 25, 26, 27, 28, 27, 28, 27, 28, 27, 28, 24, 25, 26, 27, 28, 27, 28, 27, 28, 27, 28, 24, 25, 26, 27, 28, 27, 28, 27, 28, 27, 28, 24, 25, 26, 27, 28, 27, 28, 27, 28, 27, 28, 29, 30, 31, 32, 29, 30, 31, 32, 33, 34, 35, 36, 37, 38, 39, 40, 41, 42, 43, 44, 45, 46, 47, 48, 49, 50, 51, 52, 53, 54, 55, 56, 57, 58, 59, 60, 61, 62]
def bk_at (P : Nat) : Nat := bk_pos.getD P 999
def bk_spec (k j : Nat) : Option BF := match bk_tab[k]? with
  | some (.inl q) => q.2[j]?
  | some (.inr q) => if j < q.2.1 then some q.2.2 else none
  | none => none
def bk_to (q : Nat × Int × Int × Int) (P j : Nat) : Int := q.2.1 + q.2.2.1 * (P : Int) + q.2.2.2 * (j : Int)
def bk_rok (P j : Nat) (f : BF) : Bool := match f with
  | .inl _ => true
  | .inr q => decide (0 ≤ bk_to q P j) && (decide ((bk_to q P j).toNat < 230) && decide (bk_at (bk_to q P j).toNat = q.1))
def bk_c1 (P : Nat) : Bool := match bk_tab[bk_at P]? with
  | some (.inl q) => (List.range q.2.length).all (fun j => match q.2[j]? with
    | some f => bk_rok P j f
    | none => false)
  | some (.inr q) => match q.2.2 with
    | .inl _ => true
    | .inr r => (List.range q.2.1).all (fun j => bk_rok P j (.inr r))
  | none => false
set_option maxRecDepth 100000 in
theorem bk_c1_all : (List.range 230).all bk_c1 = true := by decide +kernel
def bk_i32 (lo hi : Int) : Bool := decide (-2147483648 ≤ lo) && decide (hi < 2147483648)
def bk_i64 (lo hi : Int) : Bool := decide (-9223372036854775808 ≤ lo) && decide (hi < 9223372036854775808)
def bk_tf (t : FieldType) (f : BF) : Bool := match t, f with
  | .int, .inl q => decide (q.1 = 0) && bk_i32 q.2.1 q.2.2
  | .boolean, .inl q => decide (q.1 = 0) && (decide (0 ≤ q.2.1) && decide (q.2.2 ≤ 1))
  | .long, .inl q => decide (q.1 = 1) && bk_i64 q.2.1 q.2.2
  | .object _, .inr _ => true
  | .array _, .inr _ => true
  | _, _ => false
def bk_ta (t : Nat) (f : BF) : Bool := match t, f with
  | 0, .inl q => decide (q.1 = 0) && (decide (-128 ≤ q.2.1) && decide (q.2.2 ≤ 127))
  | 1, .inl q => decide (q.1 = 0) && bk_i32 q.2.1 q.2.2
  | 2, .inl q => decide (q.1 = 1) && bk_i64 q.2.1 q.2.2
  | 3, .inl q => decide (q.1 = 0) && (decide (0 ≤ q.2.1) && decide (q.2.2 ≤ 1))
  | _ + 4, .inr _ => true
  | _, _ => false
def bk_c2 (k : BK) : Bool := match k with
  | .inl q => match vwCl[q.1]? with
    | some r => decide (r.2.2 = q.2.length) && (List.range q.2.length).all (fun j => match q.2[j]? with
      | some f => bk_tf (ai_tf q.1 j) f
      | none => false)
    | none => false
  | .inr q => bk_ta q.1 q.2.2 && decide (q.2.1 < 2147483648)
set_option maxRecDepth 100000 in
theorem bk_c2_all : bk_tab.all bk_c2 = true := by decide +kernel
theorem bk_in {P : Nat} (h : P < 230) : bk_c1 P = true := List.all_eq_true.mp bk_c1_all P (List.mem_range.mpr h)
theorem bk_of {k : Nat} {q : BK} (h : bk_tab[k]? = some q) : bk_c2 q = true := List.all_eq_true.mp bk_c2_all q (List.mem_of_getElem? h)
theorem bk_obj {k ci : Nat} {fs : List BF} (h : bk_tab[k]? = some (.inl (ci, fs))) : ∃ r, vwCl[ci]? = some r ∧ r.2.2 = fs.length ∧ ∀ (j : Nat) (f : BF), fs[j]? = some f → bk_tf (ai_tf ci j) f = true := by
  have h2 := bk_of h
  unfold bk_c2 at h2
  dsimp only at h2
  split at h2
  · next r hr =>
    rw [Bool.and_eq_true] at h2
    refine ⟨r, hr, of_decide_eq_true h2.1, fun j f hf => ?_⟩
    have := List.all_eq_true.mp h2.2 j (List.mem_range.mpr (List.getElem?_eq_some_iff.mp hf).1)
    rw [hf] at this
    exact this
  · cases h2
theorem bk_arr {k t n : Nat} {f : BF} (h : bk_tab[k]? = some (.inr (t, n, f))) : bk_ta t f = true ∧ n < 2147483648 := by
  have h2 := bk_of h
  unfold bk_c2 at h2
  dsimp only at h2
  rw [Bool.and_eq_true] at h2
  exact ⟨h2.1, of_decide_eq_true h2.2⟩
theorem bk_ref {P j : Nat} (hP : P < 230) {q : Nat × Int × Int × Int} (h : bk_spec (bk_at P) j = some (.inr q)) : 0 ≤ bk_to q P j ∧ (bk_to q P j).toNat < 230 ∧ bk_at (bk_to q P j).toNat = q.1 := by
  have h1 := bk_in hP
  unfold bk_spec at h
  unfold bk_c1 at h1
  have fin : bk_rok P j (.inr q) = true → 0 ≤ bk_to q P j ∧ (bk_to q P j).toNat < 230 ∧ bk_at (bk_to q P j).toNat = q.1 := by
    intro h2
    unfold bk_rok at h2
    simp only [Bool.and_eq_true, decide_eq_true_eq] at h2
    exact h2
  split at h
  · next o ho =>
    rw [ho] at h1
    have h2 := List.all_eq_true.mp h1 j (List.mem_range.mpr (List.getElem?_eq_some_iff.mp h).1)
    rw [h] at h2
    exact fin h2
  · next o ho =>
    rw [ho] at h1
    dsimp only at h1
    split at h
    · next hj =>
      cases hf : o.2.2 with
      | inl z => rw [hf] at h; cases h
      | inr z =>
        rw [hf] at h h1
        cases h
        exact fin (List.all_eq_true.mp h1 j (List.mem_range.mpr hj))
    · cases h
  · cases h
/-! the world -/
/-- addresses of the places; classes of the arrays; what arrays of references hold; addresses of other things -/
abbrev BE : Type := (Nat → Nat) × (Nat → ClassId) × (Nat → Nat → Option Nat) × (Nat → Nat)
def b_ad (B : BE) : Nat → Nat := B.1
def b_ac (B : BE) : Nat → ClassId := B.2.1
def b_rr (B : BE) : Nat → Nat → Option Nat := B.2.2.1
def b_xo (B : BE) : Nat → Nat := B.2.2.2
abbrev BG : Type := Nat → Nat → Int
def bg_up (g : BG) (P j : Nat) (z : Int) : BG := fun a b => if a = P ∧ b = j then z else g a b
def bw_f (B : BE) (r : Nat → Int) (P j : Nat) (f : BF) : Value := match f with
  | .inl q => if q.1 = 0 then .int (Int32.ofInt (r j)) else .long (Int64.ofInt (r j))
  | .inr q => .ref (b_ad B (bk_to q P j).toNat)
def bw_fs (B : BE) (r : Nat → Int) (P : Nat) (fs : List BF) : List Value := fs.mapIdx (fun j f => bw_f B r P j f)
def bw_ar (B : BE) (r : Nat → Int) (P t : Nat) : (Nat → Int32) ⊕ (Nat → Int64) ⊕ (Nat → UInt32) ⊕ (Nat → UInt64) ⊕ (Nat → Option Nat) :=
  if ai_kd t = 0 then .inl (fun j => Int32.ofInt (r j)) else if ai_kd t = 1 then .inr (.inl (fun j => Int64.ofInt (r j))) else .inr (.inr (.inr (.inr (b_rr B P))))
def bw_cell (B : BE) (r : Nat → Int) (P : Nat) : va_E := match bk_tab[bk_at P]? with
  | some (.inl q) => .inr (q.1, bw_fs B r P q.2)
  | some (.inr q) => .inl (b_ac B P, q.2.1, bw_ar B r P q.1)
  | none => .inr (0, [])
def bw (B : BE) (g : BG) : va_W := (List.range 230).map (fun P => (b_ad B P, bw_cell B (g P) P))
theorem bw_get (B : BE) (g : BG) {P : Nat} (h : P < 230) : (bw B g)[P]? = some (b_ad B P, bw_cell B (g P) P) := by
  unfold bw
  rw [List.getElem?_map, List.getElem?_range h]
  rfl
theorem bw_lt {B : BE} {g : BG} {P : Nat} {q : Nat × va_E} (h : (bw B g)[P]? = some q) : P < 230 := by
  have := (List.getElem?_eq_some_iff.mp h).1
  unfold bw at this
  rw [List.length_map, List.length_range] at this
  exact this
theorem bw_set {B : BE} {g g' : BG} {P : Nat} (hP : P < 230) {x : va_E} (h1 : ∀ a, a ≠ P → g' a = g a) (h2 : bw_cell B (g' P) P = x) : (bw B g).set P (b_ad B P, x) = bw B g' := by
  apply List.ext_getElem?
  intro i
  rw [List.getElem?_set]
  by_cases hi : P = i
  · subst hi
    rw [if_pos rfl, if_pos (by unfold bw; rw [List.length_map, List.length_range]; exact hP), bw_get B g' hP, h2]
  · rw [if_neg hi]
    unfold bw
    rw [List.getElem?_map, List.getElem?_map]
    by_cases hl : i < 230
    · rw [List.getElem?_range hl]
      show some (b_ad B i, bw_cell B (g i) i) = some (b_ad B i, bw_cell B (g' i) i)
      rw [h1 i (fun e => hi e.symm)]
    · rw [List.getElem?_eq_none (by rw [List.length_range]; omega)]
      rfl
theorem bg_ne {g : BG} {P j a : Nat} {z : Int} (h : a ≠ P) : bg_up g P j z a = g a := by
  funext b
  show (if a = P ∧ b = j then z else g a b) = g a b
  rw [if_neg (fun e => h e.1)]
theorem bg_row {g : BG} {P j : Nat} {z : Int} : bg_up g P j z P = fun b => if b = j then z else g P b := by
  funext b
  show (if P = P ∧ b = j then z else g P b) = _
  by_cases h : b = j
  · rw [if_pos ⟨rfl, h⟩, if_pos h]
  · rw [if_neg (fun e => h e.2), if_neg h]
theorem bw_o {B : BE} {r : Nat → Int} {P ci : Nat} {fs : List BF} (h : bk_tab[bk_at P]? = some (.inl (ci, fs))) : bw_cell B r P = .inr (ci, bw_fs B r P fs) := by
  unfold bw_cell; rw [h]
theorem bw_a {B : BE} {r : Nat → Int} {P t n : Nat} {f : BF} (h : bk_tab[bk_at P]? = some (.inr (t, n, f))) : bw_cell B r P = .inl (b_ac B P, n, bw_ar B r P t) := by
  unfold bw_cell; rw [h]
theorem bw_fs_get {B : BE} {r : Nat → Int} {P k : Nat} {fs : List BF} {f : BF} (h : fs[k]? = some f) : (bw_fs B r P fs)[k]? = some (bw_f B r P k f) := by
  unfold bw_fs
  rw [List.getElem?_mapIdx, h]
  rfl
theorem bw_fs_len {B : BE} {r : Nat → Int} {P : Nat} {fs : List BF} : (bw_fs B r P fs).length = fs.length := by
  unfold bw_fs
  rw [List.length_mapIdx]
theorem bw_fs_set {B : BE} {r : Nat → Int} {P k : Nat} {fs : List BF} {z : Int} {q : Nat × Int × Int} (h : fs[k]? = some (.inl q)) : bw_fs B (fun b => if b = k then z else r b) P fs = (bw_fs B r P fs).set k (if q.1 = 0 then .int (Int32.ofInt z) else .long (Int64.ofInt z)) := by
  apply List.ext_getElem?
  intro i
  rw [List.getElem?_set]
  by_cases hi : k = i
  · subst hi
    rw [if_pos rfl, if_pos (by rw [bw_fs_len]; exact (List.getElem?_eq_some_iff.mp h).1), bw_fs_get h]
    show some (if q.1 = 0 then Value.int (Int32.ofInt (if k = k then z else r k)) else .long (Int64.ofInt (if k = k then z else r k))) = _
    rw [if_pos rfl]
  · rw [if_neg hi]
    cases hf : fs[i]? with
    | none => rw [List.getElem?_eq_none (by rw [bw_fs_len]; exact List.getElem?_eq_none_iff.mp hf), List.getElem?_eq_none (by rw [bw_fs_len]; exact List.getElem?_eq_none_iff.mp hf)]
    | some f =>
      rw [bw_fs_get hf, bw_fs_get hf]
      have e : (fun b => if b = k then z else r b) i = r i := if_neg (fun e => hi e.symm)
      cases f with
      | inl p =>
        show some (if p.1 = 0 then Value.int (Int32.ofInt ((fun b => if b = k then z else r b) i)) else .long (Int64.ofInt ((fun b => if b = k then z else r b) i))) = some (if p.1 = 0 then Value.int (Int32.ofInt (r i)) else .long (Int64.ofInt (r i)))
        rw [e]
      | inr p => rfl
theorem bw_setO {B : BE} {g : BG} {P ci k : Nat} {fs : List BF} {q : Nat × Int × Int} (hP : P < 230) (hk : bk_tab[bk_at P]? = some (.inl (ci, fs))) (hf : fs[k]? = some (.inl q)) (z : Int) : (bw B g).set P (b_ad B P, .inr (ci, (bw_fs B (g P) P fs).set k (if q.1 = 0 then .int (Int32.ofInt z) else .long (Int64.ofInt z)))) = bw B (bg_up g P k z) :=
  bw_set hP (fun _ h => bg_ne h) (by rw [bg_row, bw_o hk, bw_fs_set hf])
theorem bw_setI {B : BE} {g : BG} {P t n k : Nat} {f : BF} (hP : P < 230) (hk : bk_tab[bk_at P]? = some (.inr (t, n, f))) (ht : ai_kd t = 0) (x : Int32) : (bw B g).set P (b_ad B P, .inl (b_ac B P, n, .inl (upd (fun j => Int32.ofInt (g P j)) k x))) = bw B (bg_up g P k x.toInt) :=
  bw_set hP (fun _ h => bg_ne h) (by
    rw [bg_row, bw_a hk]
    unfold bw_ar
    rw [if_pos ht]
    have e : (fun j => Int32.ofInt ((fun b => if b = k then x.toInt else g P b) j)) = upd (fun j => Int32.ofInt (g P j)) k x := by
      funext j
      show Int32.ofInt (if j = k then x.toInt else g P j) = if j = k then x else Int32.ofInt (g P j)
      by_cases h : j = k
      · rw [if_pos h, if_pos h, fb_asI]
      · rw [if_neg h, if_neg h]
    rw [e])
theorem bw_setL {B : BE} {g : BG} {P t n k : Nat} {f : BF} (hP : P < 230) (hk : bk_tab[bk_at P]? = some (.inr (t, n, f))) (ht : ai_kd t = 1) (x : Int64) : (bw B g).set P (b_ad B P, .inl (b_ac B P, n, .inr (.inl (vp_updL (fun j => Int64.ofInt (g P j)) k x)))) = bw B (bg_up g P k x.toInt) :=
  bw_set hP (fun _ h => bg_ne h) (by
    rw [bg_row, bw_a hk]
    unfold bw_ar
    rw [if_neg (by rw [ht]; decide), if_pos ht]
    have e : (fun j => Int64.ofInt ((fun b => if b = k then x.toInt else g P b) j)) = vp_updL (fun j => Int64.ofInt (g P j)) k x := by
      funext j
      show Int64.ofInt (if j = k then x.toInt else g P j) = if j = k then x else Int64.ofInt (g P j)
      by_cases h : j = k
      · rw [if_pos h, if_pos h, fb_asL]
      · rw [if_neg h, if_neg h]
    rw [e])
/-- every number lies where its kind says -/
def bw_ok (g : BG) : Prop := ∀ (P j : Nat) (q : Nat × Int × Int), P < 230 → bk_spec (bk_at P) j = some (.inl q) → q.2.1 ≤ g P j ∧ g P j ≤ q.2.2
theorem bw_ok.up {g : BG} (h : bw_ok g) {P j : Nat} {z : Int} (k : ∀ q : Nat × Int × Int, bk_spec (bk_at P) j = some (.inl q) → q.2.1 ≤ z ∧ z ≤ q.2.2) : bw_ok (bg_up g P j z) := by
  intro a b q ha hq
  show q.2.1 ≤ (if a = P ∧ b = j then z else g a b) ∧ (if a = P ∧ b = j then z else g a b) ≤ q.2.2
  by_cases e : a = P ∧ b = j
  · rw [if_pos e]
    obtain ⟨rfl, rfl⟩ := e
    exact k q hq
  · rw [if_neg e]
    exact h a b q ha hq
/-- what is fixed of the world in a state -/
def bb_ok (B : BE) (s : State) : Prop := ∀ (P t n : Nat) (f : BF), P < 230 → bk_tab[bk_at P]? = some (.inr (t, n, f)) → ArrOfT s (b_ac B P) (ai_ty t) ∧ va_RA s (b_ac B P) (ai_ty t) ∧ ∀ q : Nat × Int × Int × Int, f = .inr q → ∀ j, j < n → b_rr B P j = some (b_ad B (bk_to q P j).toNat)
theorem bb_ok.moved {B : BE} {s u : State} (h : s.vm.Alike u.vm) (a : bb_ok B s) : bb_ok B u := fun P t n f hP hk => by
  obtain ⟨h1, h2, h3⟩ := a P t n f hP hk
  exact ⟨arrOfT_moved h h1, h2.moved h, h3⟩
/-- what a method's writes may touch: the codes of kinds' fields and places -/
def bk_code (k j : Nat) : Nat := match bk_tab[k]? with
  | some (.inl _) => k * 64 + j
  | _ => k * 64
def bg_same (md : List Nat) (g g' : BG) : Prop := ∀ P j : Nat, (P < 230 → bk_code (bk_at P) j ∉ md) → g' P j = g P j
theorem bg_same.rf {md : List Nat} {g : BG} : bg_same md g g := fun _ _ _ => rfl
theorem bg_same.tr {md : List Nat} {a b c : BG} (h : bg_same md a b) (k : bg_same md b c) : bg_same md a c := fun P j hn => (k P j hn).trans (h P j hn)
theorem bg_same.sub {md mf : List Nat} {a b : BG} (h : bg_same mf a b) (k : ∀ c ∈ mf, c ∈ md) : bg_same md a b := fun P j hn => h P j (fun hP z => hn hP (k _ z))
theorem bg_same.up {md : List Nat} {g : BG} {P j : Nat} {z : Int} (hP : P < 230) (h : bk_code (bk_at P) j ∈ md) : bg_same md g (bg_up g P j z) := fun a b hn => by
  show (if a = P ∧ b = j then z else g a b) = g a b
  rw [if_neg]
  rintro ⟨rfl, rfl⟩
  exact hn hP h
theorem bg_same.out {md : List Nat} {g g' : BG} (h : bg_same md g g') {P : Nat} (hP : 230 ≤ P) : g' P = g P := by
  funext j
  exact h P j (fun z => by omega)
