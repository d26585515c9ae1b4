/-! ===== machine B: the instructions that move a frame alone ===== -/
theorem b_and32 (x y : Int32) (h : 0 ≤ y.toInt) : 0 ≤ (x &&& y).toInt ∧ (x &&& y).toInt ≤ y.toInt := by
  have h1 : y.toInt = y.toBitVec.toInt := rfl
  have h2 : (x &&& y).toInt = (x.toBitVec &&& y.toBitVec).toInt := rfl
  rw [h1] at h ⊢
  rw [h2]
  have h3 := BitVec.toNat_and x.toBitVec y.toBitVec
  have h4 : x.toBitVec.toNat &&& y.toBitVec.toNat ≤ y.toBitVec.toNat := Nat.and_le_right
  have h5 := y.toBitVec.isLt
  rw [BitVec.toInt_eq_toNat_cond] at h ⊢
  rw [BitVec.toInt_eq_toNat_cond]
  split at h
  · next c =>
    rw [if_pos c, if_pos (by omega)]
    omega
  · omega
theorem b_and32' (x y : Int32) (h : 0 ≤ x.toInt) : 0 ≤ (x &&& y).toInt ∧ (x &&& y).toInt ≤ x.toInt := by
  rw [Int32.and_comm]; exact b_and32 y x h
theorem b_and64 (x y : Int64) (h : 0 ≤ y.toInt) : 0 ≤ (x &&& y).toInt ∧ (x &&& y).toInt ≤ y.toInt := by
  have h1 : y.toInt = y.toBitVec.toInt := rfl
  have h2 : (x &&& y).toInt = (x.toBitVec &&& y.toBitVec).toInt := rfl
  rw [h1] at h ⊢
  rw [h2]
  have h3 := BitVec.toNat_and x.toBitVec y.toBitVec
  have h4 : x.toBitVec.toNat &&& y.toBitVec.toNat ≤ y.toBitVec.toNat := Nat.and_le_right
  have h5 := y.toBitVec.isLt
  rw [BitVec.toInt_eq_toNat_cond] at h ⊢
  rw [BitVec.toInt_eq_toNat_cond]
  split at h
  · next c =>
    rw [if_pos c, if_pos (by omega)]
    omega
  · omega
theorem b_and64' (x y : Int64) (h : 0 ≤ x.toInt) : 0 ≤ (x &&& y).toInt ∧ (x &&& y).toInt ≤ x.toInt := by
  rw [Int64.and_comm]; exact b_and64 y x h
theorem b_pos64 {x : Int64} (h : 0 ≤ x.toInt) : x.toInt = (x.toBitVec.toNat : Int) ∧ x.toBitVec.toNat < 2 ^ 63 := by
  have h1 : x.toInt = x.toBitVec.toInt := rfl
  rw [h1] at h ⊢
  rw [BitVec.toInt_eq_toNat_cond] at h ⊢
  have h5 := x.toBitVec.isLt
  split at h
  · next c => rw [if_pos c]; omega
  · omega
theorem b_of64 {x : Int64} {n : Nat} (h : x.toBitVec.toNat = n) (hn : n < 2 ^ 63) : x.toInt = (n : Int) := by
  have h1 : x.toInt = x.toBitVec.toInt := rfl
  rw [h1, BitVec.toInt_eq_toNat_cond, if_pos (by omega), h]
theorem b_or64 {x y : Int64} {q : Int} (hx : x.toInt = 256 * q) (h0 : 0 ≤ x.toInt) (hy0 : 0 ≤ y.toInt) (hy : y.toInt ≤ 255) : (x ||| y).toInt = x.toInt + y.toInt := by
  obtain ⟨a1, a2⟩ := b_pos64 h0
  obtain ⟨b1, b2⟩ := b_pos64 hy0
  have e : (x ||| y).toBitVec.toNat = x.toBitVec.toNat + y.toBitVec.toNat := by
    show (x.toBitVec ||| y.toBitVec).toNat = _
    rw [BitVec.toNat_or]
    have hq : x.toBitVec.toNat = 2 ^ 8 * (x.toBitVec.toNat / 256) := by omega
    rw [hq]
    exact (Nat.two_pow_add_eq_or_of_lt (i := 8) (b := y.toBitVec.toNat) (by omega) _).symm
  rw [b_of64 e (by omega)]
  omega
theorem b_shl64 {x : Int64} {y : Int32} (hy : y.toInt = 8) (h0 : 0 ≤ x.toInt) (h1 : 256 * x.toInt < 2 ^ 63) : (x <<< (y.toInt64 &&& 63)).toInt = 256 * x.toInt := by
  have e0 : y = 8 := Int32.toInt_inj.mp hy
  subst e0
  obtain ⟨a1, a2⟩ := b_pos64 h0
  have e : (x <<< ((8 : Int32).toInt64 &&& 63)).toBitVec.toNat = 256 * x.toBitVec.toNat := by
    show (x.toBitVec <<< (((8 : Int32).toInt64 &&& 63).toBitVec.smod 64)).toNat = _
    rw [show ((8 : Int32).toInt64 &&& 63).toBitVec.smod 64 = 8#64 by decide, BitVec.shiftLeft_eq', BitVec.toNat_shiftLeft, Nat.shiftLeft_eq]
    show x.toBitVec.toNat * 2 ^ 8 % 2 ^ 64 = _
    omega
  rw [b_of64 e (by omega)]
  omega
/-! numbers -/
def b_md (a b : Int × Int) : Option Int := if 0 ≤ a.1 then (if 0 ≤ b.1 then some (min a.2 b.2) else some a.2) else if 0 ≤ b.1 then some b.2 else none
def b_bi (i : Instr) (s : BS) (a b : Li) : BS × Li := match i with
  | .iadd => bs_i s (li_add a b)
  | .isub => bs_i s (li_sub a b)
  | .imul => match li_k s a, li_k s b with
    | some c, _ => bs_i s (li_mul c b)
    | none, some c => bs_i s (li_mul c a)
    | none, none => bs_ti s
  | .iand => match b_md (li_v s.1 a) (li_v s.1 b) with
    | some h => bs_new s 0 h
    | none => bs_ti s
  | .ishr => if li_k s b = some 0 then (s, a) else bs_ti s
  | _ => bs_ti s
theorem b_bi_ok {nu : List Int} {g : BG} {s : BS} (h : bs_ok nu g s) {i : Instr} {len : Nat} {f : Int32 → Int32 → Int32} (hf : ai_bi i len = some f) {a b : Li} {x y : Int32} (hx : li_e nu a = some x.toInt) (hy : li_e nu b = some y.toInt) : bs_R nu g (b_bi i s a b) (f x y).toInt := by
  unfold b_bi
  split
  · rw [ai_bi_iadd hf]
    exact bs_i_R h (li_e_add hx hy) (fun h1 h2 => fb_addI h1 h2)
  · rw [ai_bi_isub hf]
    exact bs_i_R h (li_e_sub hx hy) (fun h1 h2 => fb_subI h1 h2)
  · have ef : f = fun x y => x * y := by
      match len, hf with
      | 1, hf => exact (Option.some.inj hf).symm
    rw [ef]
    split
    · next c hc =>
      have := li_k_ok h hc hx
      exact bs_i_R h (li_e_mul c hy) (fun h1 h2 => by rw [← this] at h1 h2 ⊢; exact fb_mulI h1 h2)
    · next c _ hc =>
      have := li_k_ok h hc hy
      exact bs_i_R h (li_e_mul c hx) (fun h1 h2 => by rw [← this, Int.mul_comm] at h1 h2 ⊢; exact fb_mulI h1 h2)
    · exact bs_ti_R h _
  · rw [ai_bi_iand hf]
    have v1 := li_v_ok h.1 hx
    have v2 := li_v_ok h.1 hy
    split
    · next t ht =>
      unfold b_md at ht
      split at ht
      · next c1 =>
        have := b_and32' x y (by omega)
        split at ht
        · next c2 =>
          have := b_and32 x y (by omega)
          cases ht
          exact bs_new_R h (by show 0 ≤ (x &&& y).toInt; omega) (by show (x &&& y).toInt ≤ _; omega)
        · cases ht
          exact bs_new_R h (by show 0 ≤ (x &&& y).toInt; omega) (by show (x &&& y).toInt ≤ _; omega)
      · split at ht
        · next c2 =>
          have := b_and32 x y (by omega)
          cases ht
          exact bs_new_R h (by show 0 ≤ (x &&& y).toInt; omega) (by show (x &&& y).toInt ≤ _; omega)
        · cases ht
    · exact bs_ti_R h _
  · have ef : f = fun (x y : Int32) => x >>> (y &&& 31) := by
      match len, hf with
      | 1, hf => exact (Option.some.inj hf).symm
    rw [ef]
    split
    · next c =>
      have e0 : y = 0 := Int32.toInt_inj.mp (li_k_ok h c hy)
      subst e0
      refine ⟨nu, nu_le.rf, h, ?_⟩
      show li_e nu a = some (x >>> ((0 : Int32) &&& 31)).toInt
      rw [show x >>> ((0 : Int32) &&& 31) = x by simp]
      exact hx
    · exact bs_ti_R h _
  · exact bs_ti_R h _
/-- a number known by name: found, or new -/
def bs_q (s : BS) (k : Nat) (a b : Li) (lo hi : Int) : BS × Li := match s.2.2.find? (fun e => decide (e.1 = k ∧ e.2.1 = a ∧ e.2.2.1 = b)) with
  | some e => (s, e.2.2.2)
  | none => ((s.1 ++ [(lo, hi)], s.2.1, (k, a, b, li_n s.1.length) :: s.2.2), li_n s.1.length)
theorem bs_q_G {nu : List Int} {g : BG} {s : BS} (h : bs_ok nu g s) {k : Nat} (hk : ¬ k < 1000) {a b : Li} {x y lo hi : Int} (hx : li_e nu a = some x) (hy : li_e nu b = some y) (h1 : lo ≤ bq_G g k x y) (h2 : bq_G g k x y ≤ hi) : bs_R nu g (bs_q s k a b lo hi) (bq_G g k x y) := by
  unfold bs_q
  split
  · next e he =>
    have hc0 := List.find?_some he
    have hc : e.1 = k ∧ e.2.1 = a ∧ e.2.2.1 = b := of_decide_eq_true hc0
    obtain ⟨c1, c2, c3⟩ := hc
    have hm := h.2.2 e (List.mem_of_find?_eq_some he)
    unfold bc_e at hm
    rw [c1, if_neg hk, c2, c3] at hm
    obtain ⟨x', y', m1, m2, m3⟩ := hm
    rw [hx] at m1
    rw [hy] at m2
    cases m1
    cases m2
    exact ⟨nu, nu_le.rf, h, m3⟩
  · obtain ⟨n1, n2⟩ := bs_new_ok h h1 h2
    refine ⟨_, nu_le.ap, ⟨n1.1, n1.2.1, fun e he => ?_⟩, n2⟩
    rcases List.mem_cons.mp he with rfl | he
    · unfold bc_e
      rw [if_neg hk]
      exact ⟨x, y, li_e_mono nu_le.ap hx, li_e_mono nu_le.ap hy, n2⟩
    · exact n1.2.2 e he
theorem bs_q_R {nu : List Int} {g : BG} {s : BS} (h : bs_ok nu g s) {k : Nat} (hk : ¬ k < 1000) (hn : k ≠ 1010) {a b : Li} {x y lo hi : Int} (hx : li_e nu a = some x) (hy : li_e nu b = some y) (h1 : lo ≤ bq_F k x y) (h2 : bq_F k x y ≤ hi) : bs_R nu g (bs_q s k a b lo hi) (bq_F k x y) := by
  rw [← bq_G_F (g := g) hn] at h1 h2 ⊢
  exact bs_q_G h hk hx hy h1 h2
def b_z (a : Int × Int) : Bool := decide (0 ≤ a.1) && decide (a.2 ≤ 255)
def li_256 (a : Li) : Bool := decide (a.1 % 256 = 0) && a.2.all (fun q => decide (q.2 % 256 = 0))
theorem li_256_t {nu : List Int} : ∀ {a : LT} {x : Int}, li_t nu a = some x → a.all (fun q => decide (q.2 % 256 = 0)) = true → ∃ y, x = 256 * y
  | [], x, h, _ => by cases h; exact ⟨0, rfl⟩
  | q :: r, x, h, k => by
    obtain ⟨u, y, h1, h2, rfl⟩ := li_t_cons h
    rw [List.all_cons, Bool.and_eq_true] at k
    obtain ⟨z, rfl⟩ := li_256_t h2 k.2
    have k1 := of_decide_eq_true k.1
    refine ⟨q.2 / 256 * u + z, ?_⟩
    have e : q.2 = 256 * (q.2 / 256) := by omega
    rw [Int.mul_add, ← Int.mul_assoc, ← e]
theorem li_256_ok {nu : List Int} {a : Li} {x : Int} (h : li_e nu a = some x) (k : li_256 a = true) : ∃ y, x = 256 * y := by
  unfold li_256 at k
  rw [Bool.and_eq_true] at k
  obtain ⟨u, h1, rfl⟩ := li_e_of h
  obtain ⟨y, rfl⟩ := li_256_t h1 k.2
  have := of_decide_eq_true k.1
  exact ⟨a.1 / 256 + y, by omega⟩
def b_bl (i : Instr) (s : BS) (a b : Li) : BS × Li := match i with
  | .ladd => bs_j s (li_add a b)
  | .lsub => bs_j s (li_sub a b)
  | .land => match b_md (li_v s.1 a) (li_v s.1 b) with
    | some h => bs_q s 1001 a b 0 h
    | none => bs_q s 1001 a b (-9223372036854775808) 9223372036854775807
  | .lor => if li_256 a && (b_z (li_v s.1 b) && decide (0 ≤ (li_v s.1 a).1)) then (s, li_add a b) else bs_q s 1002 a b (-9223372036854775808) 9223372036854775807
  | _ => bs_tj s
theorem b_bl_ok {nu : List Int} {g : BG} {s : BS} (h : bs_ok nu g s) {i : Instr} {len : Nat} {f : Int64 → Int64 → Int64} (hf : ai_bl i len = some f) {a b : Li} {x y : Int64} (hx : li_e nu a = some x.toInt) (hy : li_e nu b = some y.toInt) : bs_R nu g (b_bl i s a b) (f x y).toInt := by
  have big : ∀ z : Int64, z.toInt ≤ 9223372036854775807 := fun z => by have := (fb_rngL z).2; omega
  unfold b_bl
  split
  · have ef : f = fun x y => x + y := by
      match len, hf with
      | 1, hf => exact (Option.some.inj hf).symm
    rw [ef]
    exact bs_j_R h (li_e_add hx hy) (fun h1 h2 => fb_addL h1 h2)
  · have ef : f = fun x y => x - y := by
      match len, hf with
      | 1, hf => exact (Option.some.inj hf).symm
    rw [ef]
    exact bs_j_R h (li_e_sub hx hy) (fun h1 h2 => fb_subL h1 h2)
  · rw [ai_bl_land hf]
    have v1 := li_v_ok h.1 hx
    have v2 := li_v_ok h.1 hy
    have eF : bq_F 1001 x.toInt y.toInt = (x &&& y).toInt := by
      show (Int64.ofInt x.toInt &&& Int64.ofInt y.toInt).toInt = _
      rw [fb_asL, fb_asL]
    split
    · next t ht =>
      show bs_R nu g (bs_q s 1001 a b 0 t) (x &&& y).toInt
      rw [← eF]
      refine bs_q_R h (by decide) (by decide) hx hy ?_ ?_
      all_goals
        rw [eF]
        unfold b_md at ht
        split at ht
        · next c1 =>
          have := b_and64' x y (by omega)
          split at ht
          · next c2 =>
            have := b_and64 x y (by omega)
            cases ht
            omega
          · cases ht
            omega
        · split at ht
          · next c2 =>
            have := b_and64 x y (by omega)
            cases ht
            omega
          · cases ht
    · show bs_R nu g (bs_q s 1001 a b _ _) (x &&& y).toInt
      rw [← eF]
      exact bs_q_R h (by decide) (by decide) hx hy (by rw [eF]; exact (fb_rngL _).1) (by rw [eF]; exact big _)
  · rw [ai_bl_lor hf]
    split
    · next c =>
      simp only [Bool.and_eq_true, decide_eq_true_eq] at c
      obtain ⟨c1, c2, c3⟩ := c
      unfold b_z at c2
      simp only [Bool.and_eq_true, decide_eq_true_eq] at c2
      have v1 := li_v_ok h.1 hx
      have v2 := li_v_ok h.1 hy
      obtain ⟨q, hq⟩ := li_256_ok hx c1
      refine ⟨nu, nu_le.rf, h, ?_⟩
      show _ = some (x ||| y).toInt
      rw [b_or64 hq (by omega) (by omega) (by omega)]
      exact li_e_add hx hy
    · have eF : bq_F 1002 x.toInt y.toInt = (x ||| y).toInt := by
        show (Int64.ofInt x.toInt ||| Int64.ofInt y.toInt).toInt = _
        rw [fb_asL, fb_asL]
      show bs_R nu g (bs_q s 1002 a b _ _) (x ||| y).toInt
      rw [← eF]
      exact bs_q_R h (by decide) (by decide) hx hy (by rw [eF]; exact (fb_rngL _).1) (by rw [eF]; exact big _)
  · exact bs_tj_R h _
def b_bs (i : Instr) (s : BS) (a b : Li) : BS × Li := match i with
  | .lshl => if decide (li_k s b = some 8) && (decide (0 ≤ (li_v s.1 a).1) && decide ((li_v s.1 (li_mul 256 a)).2 < 9223372036854775808)) then (s, li_mul 256 a) else bs_q s 1000 a b (-9223372036854775808) 9223372036854775807
  | .lshr => bs_q s 1006 a b (-9223372036854775808) 9223372036854775807
  | .lushr => bs_q s 1007 a b (-9223372036854775808) 9223372036854775807
  | _ => bs_tj s
theorem b_bs_ok {nu : List Int} {g : BG} {s : BS} (h : bs_ok nu g s) {i : Instr} {len : Nat} {f : Int64 → Int32 → Int64} (hf : ai_bs i len = some f) {a b : Li} {x : Int64} {y : Int32} (hx : li_e nu a = some x.toInt) (hy : li_e nu b = some y.toInt) : bs_R nu g (b_bs i s a b) (f x y).toInt := by
  have big : ∀ z : Int64, z.toInt ≤ 9223372036854775807 := fun z => by have := (fb_rngL z).2; omega
  unfold b_bs
  split
  · rw [ai_bs_lshl hf]
    split
    · next c =>
      simp only [Bool.and_eq_true, decide_eq_true_eq] at c
      obtain ⟨c1, c2, c3⟩ := c
      have v1 := li_v_ok h.1 hx
      have v2 := li_v_ok h.1 (li_e_mul 256 hx)
      refine ⟨nu, nu_le.rf, h, ?_⟩
      show _ = some (x <<< (y.toInt64 &&& 63)).toInt
      rw [b_shl64 (li_k_ok h c1 hy) (by omega) (by omega)]
      exact li_e_mul 256 hx
    · have eF : bq_F 1000 x.toInt y.toInt = (x <<< (y.toInt64 &&& 63)).toInt := by
        show (Int64.ofInt x.toInt <<< ((Int32.ofInt y.toInt).toInt64 &&& 63)).toInt = _
        rw [fb_asL, fb_asI]
      show bs_R nu g (bs_q s 1000 a b _ _) (x <<< (y.toInt64 &&& 63)).toInt
      rw [← eF]
      exact bs_q_R h (by decide) (by decide) hx hy (by rw [eF]; exact (fb_rngL _).1) (by rw [eF]; exact big _)
  · rw [ai_bs_lshr hf]
    have eF : bq_F 1006 x.toInt y.toInt = (x >>> (y.toInt64 &&& 63)).toInt := by
      show (Int64.ofInt x.toInt >>> ((Int32.ofInt y.toInt).toInt64 &&& 63)).toInt = _
      rw [fb_asL, fb_asI]
    show bs_R nu g (bs_q s 1006 a b _ _) (x >>> (y.toInt64 &&& 63)).toInt
    rw [← eF]
    exact bs_q_R h (by decide) (by decide) hx hy (by rw [eF]; exact (fb_rngL _).1) (by rw [eF]; exact big _)
  · have ef : f = fun (x : Int64) (y : Int32) => (x.toUInt64 >>> (y.toInt64.toUInt64 &&& Int64.toUInt64 63)).toInt64 := by
      match len, hf with
      | 1, hf => exact (Option.some.inj hf).symm
    rw [ef]
    have eF : bq_F 1007 x.toInt y.toInt = (x.toUInt64 >>> (y.toInt64.toUInt64 &&& Int64.toUInt64 63)).toInt64.toInt := by
      show ((Int64.ofInt x.toInt).toUInt64 >>> ((Int32.ofInt y.toInt).toInt64.toUInt64 &&& Int64.toUInt64 63)).toInt64.toInt = _
      rw [fb_asL, fb_asI]
    show bs_R nu g (bs_q s 1007 a b _ _) (x.toUInt64 >>> (y.toInt64.toUInt64 &&& Int64.toUInt64 63)).toInt64.toInt
    rw [← eF]
    exact bs_q_R h (by decide) (by decide) hx hy (by rw [eF]; exact (fb_rngL _).1) (by rw [eF]; exact big _)
  · exact bs_tj_R h _
