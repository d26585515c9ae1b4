/-! ===== machine B: the instructions that move a frame alone ===== -/
theorem b_and32 (x y : Int32) (h : 0 ≤ y.toInt) : 0 ≤ (x &&& y).toInt ∧ (x &&& y).toInt ≤ y.toInt := by
  have h1 : y.toInt = y.toBitVec.toInt := rfl
  have h2 : (x &&& y).toInt = (x.toBitVec &&& y.toBitVec).toInt := rfl
  rw [h1] at h ⊢
  rw [h2]
  have h3 := BitVec.toNat_and x.toBitVec y.toBitVec
  have h4 : x.toBitVec.toNat &&& y.toBitVec.toNat ≤ y.toBitVec.toNat := Nat.and_le_right
  have h5 := y.toBitVec.isLt
  rw [BitVec.toInt_eq_toNat_cond] at h ⊢
  rw [BitVec.toInt_eq_toNat_cond]
  split at h
  · next c =>
    rw [if_pos c, if_pos (by omega)]
    omega
  · omega
theorem b_and32' (x y : Int32) (h : 0 ≤ x.toInt) : 0 ≤ (x &&& y).toInt ∧ (x &&& y).toInt ≤ x.toInt := by
  rw [Int32.and_comm]; exact b_and32 y x h
theorem b_and64 (x y : Int64) (h : 0 ≤ y.toInt) : 0 ≤ (x &&& y).toInt ∧ (x &&& y).toInt ≤ y.toInt := by
  have h1 : y.toInt = y.toBitVec.toInt := rfl
  have h2 : (x &&& y).toInt = (x.toBitVec &&& y.toBitVec).toInt := rfl
  rw [h1] at h ⊢
  rw [h2]
  have h3 := BitVec.toNat_and x.toBitVec y.toBitVec
  have h4 : x.toBitVec.toNat &&& y.toBitVec.toNat ≤ y.toBitVec.toNat := Nat.and_le_right
  have h5 := y.toBitVec.isLt
  rw [BitVec.toInt_eq_toNat_cond] at h ⊢
  rw [BitVec.toInt_eq_toNat_cond]
  split at h
  · next c =>
    rw [if_pos c, if_pos (by omega)]
    omega
  · omega
theorem b_and64' (x y : Int64) (h : 0 ≤ x.toInt) : 0 ≤ (x &&& y).toInt ∧ (x &&& y).toInt ≤ x.toInt := by
  rw [Int64.and_comm]; exact b_and64 y x h
theorem b_pos64 {x : Int64} (h : 0 ≤ x.toInt) : x.toInt = (x.toBitVec.toNat : Int) ∧ x.toBitVec.toNat < 2 ^ 63 := by
  have h1 : x.toInt = x.toBitVec.toInt := rfl
  rw [h1] at h ⊢
  rw [BitVec.toInt_eq_toNat_cond] at h ⊢
  have h5 := x.toBitVec.isLt
  split at h
  · next c => rw [if_pos c]; omega
  · omega
theorem b_of64 {x : Int64} {n : Nat} (h : x.toBitVec.toNat = n) (hn : n < 2 ^ 63) : x.toInt = (n : Int) := by
  have h1 : x.toInt = x.toBitVec.toInt := rfl
  rw [h1, BitVec.toInt_eq_toNat_cond, if_pos (by omega), h]
theorem b_or64 {x y : Int64} {q : Int} (hx : x.toInt = 256 * q) (h0 : 0 ≤ x.toInt) (hy0 : 0 ≤ y.toInt) (hy : y.toInt ≤ 255) : (x ||| y).toInt = x.toInt + y.toInt := by
  obtain ⟨a1, a2⟩ := b_pos64 h0
  obtain ⟨b1, b2⟩ := b_pos64 hy0
  have e : (x ||| y).toBitVec.toNat = x.toBitVec.toNat + y.toBitVec.toNat := by
    show (x.toBitVec ||| y.toBitVec).toNat = _
    rw [BitVec.toNat_or]
    have hq : x.toBitVec.toNat = 2 ^ 8 * (x.toBitVec.toNat / 256) := by omega
    rw [hq]
    exact (Nat.two_pow_add_eq_or_of_lt (i := 8) (b := y.toBitVec.toNat) (by omega) _).symm
  rw [b_of64 e (by omega)]
  omega
theorem b_shl64 {x : Int64} {y : Int32} (hy : y.toInt = 8) (h0 : 0 ≤ x.toInt) (h1 : 256 * x.toInt < 2 ^ 63) : (x <<< (y.toInt64 &&& 63)).toInt = 256 * x.toInt := by
  have e0 : y = 8 := Int32.toInt_inj.mp hy
  subst e0
  obtain ⟨a1, a2⟩ := b_pos64 h0
  have e : (x <<< ((8 : Int32).toInt64 &&& 63)).toBitVec.toNat = 256 * x.toBitVec.toNat := by
    show (x.toBitVec <<< (((8 : Int32).toInt64 &&& 63).toBitVec.smod 64)).toNat = _
    rw [show ((8 : Int32).toInt64 &&& 63).toBitVec.smod 64 = 8#64 by decide, BitVec.shiftLeft_eq', BitVec.toNat_shiftLeft, Nat.shiftLeft_eq]
    show x.toBitVec.toNat * 2 ^ 8 % 2 ^ 64 = _
    omega
  rw [b_of64 e (by omega)]
  omega
/-! a byte of a long, two ways -/
theorem t_255 (n i : Nat) (h : ¬ i < 8) : (255#n).getLsbD i = false := by
  rw [BitVec.getLsbD_ofNat]
  have : Nat.testBit 255 i = false := Nat.testBit_lt_two_pow (Nat.lt_of_lt_of_le (show 255 < 2 ^ 8 by decide) (Nat.pow_le_pow_right (by decide) (by omega)))
  rw [this, Bool.and_false]
theorem t_255' (n i : Nat) (h : i < 8) (hn : 8 ≤ n) : (255#n).getLsbD i = true := by
  rw [BitVec.getLsbD_ofNat]
  have : Nat.testBit 255 i = true := by
    match i, h with
    | 0, _ => rfl
    | 1, _ => rfl
    | 2, _ => rfl
    | 3, _ => rfl
    | 4, _ => rfl
    | 5, _ => rfl
    | 6, _ => rfl
    | 7, _ => rfl
  rw [this, Bool.and_true, decide_eq_true_eq]
  omega
theorem t_bit (w : BitVec 64) (s : Nat) (hs : s ≤ 56) : ((w >>> s).signExtend 32) &&& 255#32 = ((w.sshiftRight s) &&& 255#64).signExtend 32 := by
  apply BitVec.eq_of_getLsbD_eq
  intro i hi
  have hi64 : i < 64 := by omega
  rw [BitVec.getLsbD_and, BitVec.getLsbD_signExtend, BitVec.getLsbD_signExtend, if_pos hi64, if_pos hi64, BitVec.getLsbD_and]
  by_cases h8 : i < 8
  · have hsi : s + i < 64 := by omega
    rw [t_255' 32 i h8 (by decide), t_255' 64 i h8 (by decide), BitVec.getLsbD_ushiftRight, BitVec.getLsbD_sshiftRight, if_pos hsi]
    simp only [Bool.and_true, show decide (64 ≤ i) = false from decide_eq_false (by omega), Bool.not_false, Bool.true_and]
  · rw [t_255 32 i h8, t_255 64 i h8]
    simp only [Bool.and_false]
theorem t_eqk (w : Int64) (k : Nat) (hk : k ≤ 56) (a : UInt64) (b : Int64) (ha : (a.toBitVec % 64).toNat = k) (hb : (b.toBitVec.smod 64).toNat = k) : ((w.toUInt64 >>> a).toInt64).toInt32 &&& 255 = ((w >>> b) &&& 255).toInt32 := by
  apply Int32.toBitVec_inj.mp
  have e1 : (w.toUInt64 >>> a).toInt64.toBitVec = w.toBitVec >>> k := by
    show (w.toUInt64 >>> a).toBitVec = _
    rw [UInt64.toBitVec_shiftRight, BitVec.ushiftRight_eq', ha]
    rfl
  have e2 : (w >>> b).toBitVec = w.toBitVec.sshiftRight k := by
    rw [Int64.toBitVec_shiftRight, BitVec.sshiftRight_eq', hb]
  rw [Int32.toBitVec_and, Int64.toBitVec_toInt32, Int64.toBitVec_toInt32, Int64.toBitVec_and, e1, e2]
  exact t_bit _ _ hk
theorem t_sh1 : ∀ n : Fin 57, (((Int32.ofInt (n.val : Int)).toInt64.toUInt64 &&& Int64.toUInt64 63).toBitVec % 64).toNat = n.val := by decide +kernel
theorem t_sh2 : ∀ n : Fin 57, (((Int32.ofInt (n.val : Int)).toInt64 &&& 63).toBitVec.smod 64).toNat = n.val := by decide +kernel
theorem bq_b_rng (w s : Int) : 0 ≤ bq_b w s ∧ bq_b w s ≤ 255 := b_and64 _ 255 (by decide)
theorem bq_F11 (a b : Int) : bq_F 1011 a b = (Int64.ofInt a).toInt32.toInt := by
  unfold bq_F
  rw [if_neg (by decide), if_neg (by decide), if_neg (by decide), if_neg (by decide), if_neg (by decide), if_neg (by decide), if_neg (by decide), if_neg (by decide), if_pos rfl]
theorem bq_F6 (a b : Int) : bq_F 1006 a b = (Int64.ofInt a >>> ((Int32.ofInt b).toInt64 &&& 63)).toInt := by
  unfold bq_F
  rw [if_neg (by decide), if_neg (by decide), if_neg (by decide), if_neg (by decide), if_neg (by decide), if_neg (by decide), if_pos rfl]
theorem bq_F7 (a b : Int) : bq_F 1007 a b = ((Int64.ofInt a).toUInt64 >>> ((Int32.ofInt b).toInt64.toUInt64 &&& Int64.toUInt64 63)).toInt64.toInt := by
  unfold bq_F
  rw [if_neg (by decide), if_neg (by decide), if_neg (by decide), if_neg (by decide), if_neg (by decide), if_neg (by decide), if_neg (by decide), if_pos rfl]
theorem bq_F3 (a b : Int) : bq_F 1003 a b = bq_b a b := by
  unfold bq_F
  rw [if_neg (by decide), if_neg (by decide), if_neg (by decide), if_pos rfl]
theorem bq_F5 (a b : Int) : bq_F 1005 a b = if bq_all a b.toNat then 1 else 0 := by
  unfold bq_F
  rw [if_neg (by decide), if_neg (by decide), if_neg (by decide), if_neg (by decide), if_neg (by decide), if_pos rfl]
theorem bq_b_i {w s : Int} (h0 : 0 ≤ s) (h1 : s ≤ 56) : ((Int64.ofInt (bq_F 1007 w s)).toInt32 &&& 255).toInt = bq_b w s := by
  obtain ⟨n, rfl⟩ := Int.eq_ofNat_of_zero_le h0
  have hn : n < 57 := by omega
  rw [bq_F7, fb_asL, t_eqk (Int64.ofInt w) n (by omega) _ _ (t_sh1 ⟨n, hn⟩) (t_sh2 ⟨n, hn⟩)]
  have h2 := bq_b_rng w n
  show (((Int64.ofInt w >>> ((Int32.ofInt (n : Int)).toInt64 &&& 63)) &&& 255).toInt32).toInt = bq_b w n
  rw [Int64.toInt_toInt32]
  exact fb_bmod (by unfold bq_b at h2; omega) (by unfold bq_b at h2; omega)
/-- a number known by name: found, or new -/
def bs_q (s : BS) (k : Nat) (a b : Li) (lo hi : Int) : BS × Li := match s.2.2.find? (fun e => decide (e.1 = k ∧ e.2.1 = a ∧ e.2.2.1 = b)) with
  | some e => (s, e.2.2.2)
  | none => ((s.1 ++ [(lo, hi)], s.2.1, (k, a, b, li_n s.1.length) :: s.2.2), li_n s.1.length)
theorem bs_q_G {nu : List Int} {g : BG} {s : BS} (h : bs_ok nu g s) {k : Nat} (hk : ¬ k < 1000) {a b : Li} {x y lo hi : Int} (hx : li_e nu a = some x) (hy : li_e nu b = some y) (h1 : lo ≤ bq_G g k x y) (h2 : bq_G g k x y ≤ hi) : bs_R nu g (bs_q s k a b lo hi) (bq_G g k x y) := by
  unfold bs_q
  split
  · next e he =>
    have hc0 := List.find?_some he
    have hc : e.1 = k ∧ e.2.1 = a ∧ e.2.2.1 = b := of_decide_eq_true hc0
    obtain ⟨c1, c2, c3⟩ := hc
    have hm := h.2.2 e (List.mem_of_find?_eq_some he)
    unfold bc_e at hm
    rw [c1, if_neg hk, c2, c3] at hm
    obtain ⟨x', y', m1, m2, m3⟩ := hm
    rw [hx] at m1
    rw [hy] at m2
    cases m1
    cases m2
    exact ⟨nu, nu_le.rf, h, m3⟩
  · obtain ⟨n1, n2⟩ := bs_new_ok h h1 h2
    refine ⟨_, nu_le.ap, ⟨n1.1, n1.2.1, fun e he => ?_⟩, n2⟩
    rcases List.mem_cons.mp he with rfl | he
    · unfold bc_e
      rw [if_neg hk]
      exact ⟨x, y, li_e_mono nu_le.ap hx, li_e_mono nu_le.ap hy, n2⟩
    · exact n1.2.2 e he
theorem bs_q_R {nu : List Int} {g : BG} {s : BS} (h : bs_ok nu g s) {k : Nat} (hk : ¬ k < 1000) (hn : k ≠ 1010) {a b : Li} {x y lo hi : Int} (hx : li_e nu a = some x) (hy : li_e nu b = some y) (h1 : lo ≤ bq_F k x y) (h2 : bq_F k x y ≤ hi) : bs_R nu g (bs_q s k a b lo hi) (bq_F k x y) := by
  rw [← bq_G_F (g := g) hn] at h1 h2 ⊢
  exact bs_q_G h hk hx hy h1 h2
/-! numbers -/
/-- the int is a byte of a long -/
def b_by (s : BS) (a b : Li) : Option (Li × Li) := if li_k s b = some 255 then (match s.2.2.find? (fun e => decide (e.1 = 1011 ∧ e.2.2.2 = a)) with
  | some e => (match s.2.2.find? (fun q => decide (q.1 = 1007 ∧ q.2.2.2 = e.2.1)) with
    | some q => if bs_fit s 0 56 q.2.2.1 then some (q.2.1, q.2.2.1) else none
    | none => none)
  | none => none) else none
theorem b_by_ok {nu : List Int} {g : BG} {s : BS} (h : bs_ok nu g s) {a b : Li} {q : Li × Li} (c : b_by s a b = some q) {x y : Int32} (hx : li_e nu a = some x.toInt) (hy : li_e nu b = some y.toInt) : ∃ w z : Int, li_e nu q.1 = some w ∧ li_e nu q.2 = some z ∧ (x &&& y).toInt = bq_b w z := by
  unfold b_by at c
  split at c
  · next hk =>
    have e0 : y = 255 := Int32.toInt_inj.mp (li_k_ok h hk hy)
    subst e0
    split at c
    · next e he =>
      split at c
      · next q1 hq =>
        split at c
        · next hf =>
          cases c
          have ce := List.find?_some he
          have ce : e.1 = 1011 ∧ e.2.2.2 = a := of_decide_eq_true ce
          have cq := List.find?_some hq
          have cq : q1.1 = 1007 ∧ q1.2.2.2 = e.2.1 := of_decide_eq_true cq
          obtain ⟨c1, c2⟩ := ce
          obtain ⟨d1, d2⟩ := cq
          have m := h.2.2 e (List.mem_of_find?_eq_some he)
          have n := h.2.2 q1 (List.mem_of_find?_eq_some hq)
          unfold bc_e at m n
          rw [c1, if_neg (by decide), c2] at m
          rw [d1, if_neg (by decide), d2] at n
          obtain ⟨u, u', m1, -, m3⟩ := m
          obtain ⟨w, z, n1, n2, n3⟩ := n
          rw [m1, bq_G_F (by decide)] at n3
          have eu : u = bq_F 1007 w z := Option.some.inj n3
          rw [hx, bq_G_F (by decide), bq_F11] at m3
          have ex : x.toInt = (Int64.ofInt u).toInt32.toInt := Option.some.inj m3
          obtain ⟨f1, f2⟩ := bs_fit_ok h hf n2
          refine ⟨w, z, n1, n2, ?_⟩
          rw [Int32.toInt_inj.mp ex, eu]
          exact bq_b_i f1 f2
        · cases c
      · cases c
    · cases c
  · cases c
/-- the long is a byte of a long -/
def b_bj (s : BS) (a b : Li) : Option (Li × Li) := if li_k s b = some 255 then (match s.2.2.find? (fun e => decide (e.1 = 1006 ∧ e.2.2.2 = a)) with
  | some e => some (e.2.1, e.2.2.1)
  | none => none) else none
theorem b_bj_ok {nu : List Int} {g : BG} {s : BS} (h : bs_ok nu g s) {a b : Li} {q : Li × Li} (c : b_bj s a b = some q) {x y : Int64} (hx : li_e nu a = some x.toInt) (hy : li_e nu b = some y.toInt) : ∃ w z : Int, li_e nu q.1 = some w ∧ li_e nu q.2 = some z ∧ (x &&& y).toInt = bq_b w z := by
  unfold b_bj at c
  split at c
  · next hk =>
    have e0 : y = 255 := Int64.toInt_inj.mp (li_k_ok h hk hy)
    subst e0
    split at c
    · next e he =>
      cases c
      have ce := List.find?_some he
      have ce : e.1 = 1006 ∧ e.2.2.2 = a := of_decide_eq_true ce
      obtain ⟨c1, c2⟩ := ce
      have m := h.2.2 e (List.mem_of_find?_eq_some he)
      unfold bc_e at m
      rw [c1, if_neg (by decide), c2] at m
      obtain ⟨w, z, n1, n2, n3⟩ := m
      rw [hx, bq_G_F (by decide), bq_F6] at n3
      have ex : x.toInt = (Int64.ofInt w >>> ((Int32.ofInt z).toInt64 &&& 63)).toInt := Option.some.inj n3
      refine ⟨w, z, n1, n2, ?_⟩
      rw [Int64.toInt_inj.mp ex]
      rfl
    · cases c
  · cases c
def b_md (a b : Int × Int) : Option Int := if 0 ≤ a.1 then (if 0 ≤ b.1 then some (min a.2 b.2) else some a.2) else if 0 ≤ b.1 then some b.2 else none
def b_bi (i : Instr) (s : BS) (a b : Li) : BS × Li := match i with
  | .iadd => bs_i s (li_add a b)
  | .isub => bs_i s (li_sub a b)
  | .imul => match li_k s a, li_k s b with
    | some c, _ => bs_i s (li_mul c b)
    | none, some c => bs_i s (li_mul c a)
    | none, none => bs_ti s
  | .iand => match b_by s a b with
    | some q => bs_q s 1003 q.1 q.2 0 255
    | none => match b_md (li_v s.1 a) (li_v s.1 b) with
    | some h => bs_new s 0 h
    | none => bs_ti s
  | .ishr => if li_k s b = some 0 then (s, a) else bs_ti s
  | _ => bs_ti s
theorem b_bi_ok {nu : List Int} {g : BG} {s : BS} (h : bs_ok nu g s) {i : Instr} {len : Nat} {f : Int32 → Int32 → Int32} (hf : ai_bi i len = some f) {a b : Li} {x y : Int32} (hx : li_e nu a = some x.toInt) (hy : li_e nu b = some y.toInt) : bs_R nu g (b_bi i s a b) (f x y).toInt := by
  unfold b_bi
  split
  · rw [ai_bi_iadd hf]
    exact bs_i_R h (li_e_add hx hy) (fun h1 h2 => fb_addI h1 h2)
  · rw [ai_bi_isub hf]
    exact bs_i_R h (li_e_sub hx hy) (fun h1 h2 => fb_subI h1 h2)
  · have ef : f = fun x y => x * y := by
      match len, hf with
      | 1, hf => exact (Option.some.inj hf).symm
    rw [ef]
    split
    · next c hc =>
      have := li_k_ok h hc hx
      exact bs_i_R h (li_e_mul c hy) (fun h1 h2 => by rw [← this] at h1 h2 ⊢; exact fb_mulI h1 h2)
    · next c _ hc =>
      have := li_k_ok h hc hy
      exact bs_i_R h (li_e_mul c hx) (fun h1 h2 => by rw [← this, Int.mul_comm] at h1 h2 ⊢; exact fb_mulI h1 h2)
    · exact bs_ti_R h _
  · rw [ai_bi_iand hf]
    have v1 := li_v_ok h.1 hx
    have v2 := li_v_ok h.1 hy
    split
    · next q hq =>
      obtain ⟨w, z, w1, w2, w3⟩ := b_by_ok h hq hx hy
      show bs_R nu g (bs_q s 1003 q.1 q.2 0 255) (x &&& y).toInt
      rw [w3]
      rw [← bq_F3]
      exact bs_q_R h (k := 1003) (by decide) (by decide) w1 w2 (by rw [bq_F3]; exact (bq_b_rng w z).1) (by rw [bq_F3]; exact (bq_b_rng w z).2)
    split
    · next t ht =>
      unfold b_md at ht
      split at ht
      · next c1 =>
        have := b_and32' x y (by omega)
        split at ht
        · next c2 =>
          have := b_and32 x y (by omega)
          cases ht
          exact bs_new_R h (by show 0 ≤ (x &&& y).toInt; omega) (by show (x &&& y).toInt ≤ _; omega)
        · cases ht
          exact bs_new_R h (by show 0 ≤ (x &&& y).toInt; omega) (by show (x &&& y).toInt ≤ _; omega)
      · split at ht
        · next c2 =>
          have := b_and32 x y (by omega)
          cases ht
          exact bs_new_R h (by show 0 ≤ (x &&& y).toInt; omega) (by show (x &&& y).toInt ≤ _; omega)
        · cases ht
    · exact bs_ti_R h _
  · have ef : f = fun (x y : Int32) => x >>> (y &&& 31) := by
      match len, hf with
      | 1, hf => exact (Option.some.inj hf).symm
    rw [ef]
    split
    · next c =>
      have e0 : y = 0 := Int32.toInt_inj.mp (li_k_ok h c hy)
      subst e0
      refine ⟨nu, nu_le.rf, h, ?_⟩
      show li_e nu a = some (x >>> ((0 : Int32) &&& 31)).toInt
      rw [show x >>> ((0 : Int32) &&& 31) = x by simp]
      exact hx
    · exact bs_ti_R h _
  · exact bs_ti_R h _
def b_z (a : Int × Int) : Bool := decide (0 ≤ a.1) && decide (a.2 ≤ 255)
def li_256 (a : Li) : Bool := decide (a.1 % 256 = 0) && a.2.all (fun q => decide (q.2 % 256 = 0))
theorem li_256_t {nu : List Int} : ∀ {a : LT} {x : Int}, li_t nu a = some x → a.all (fun q => decide (q.2 % 256 = 0)) = true → ∃ y, x = 256 * y
  | [], x, h, _ => by cases h; exact ⟨0, rfl⟩
  | q :: r, x, h, k => by
    obtain ⟨u, y, h1, h2, rfl⟩ := li_t_cons h
    rw [List.all_cons, Bool.and_eq_true] at k
    obtain ⟨z, rfl⟩ := li_256_t h2 k.2
    have k1 := of_decide_eq_true k.1
    refine ⟨q.2 / 256 * u + z, ?_⟩
    have e : q.2 = 256 * (q.2 / 256) := by omega
    rw [Int.mul_add, ← Int.mul_assoc, ← e]
theorem li_256_ok {nu : List Int} {a : Li} {x : Int} (h : li_e nu a = some x) (k : li_256 a = true) : ∃ y, x = 256 * y := by
  unfold li_256 at k
  rw [Bool.and_eq_true] at k
  obtain ⟨u, h1, rfl⟩ := li_e_of h
  obtain ⟨y, rfl⟩ := li_256_t h1 k.2
  have := of_decide_eq_true k.1
  exact ⟨a.1 / 256 + y, by omega⟩
def b_bl (i : Instr) (s : BS) (a b : Li) : BS × Li := match i with
  | .ladd => bs_j s (li_add a b)
  | .lsub => bs_j s (li_sub a b)
  | .land => match b_bj s a b with
    | some q => bs_q s 1003 q.1 q.2 0 255
    | none => match b_md (li_v s.1 a) (li_v s.1 b) with
    | some h => bs_q s 1001 a b 0 h
    | none => bs_q s 1001 a b (-9223372036854775808) 9223372036854775807
  | .lor => if li_256 a && (b_z (li_v s.1 b) && decide (0 ≤ (li_v s.1 a).1)) then (s, li_add a b) else bs_q s 1002 a b (-9223372036854775808) 9223372036854775807
  | _ => bs_tj s
theorem b_bl_ok {nu : List Int} {g : BG} {s : BS} (h : bs_ok nu g s) {i : Instr} {len : Nat} {f : Int64 → Int64 → Int64} (hf : ai_bl i len = some f) {a b : Li} {x y : Int64} (hx : li_e nu a = some x.toInt) (hy : li_e nu b = some y.toInt) : bs_R nu g (b_bl i s a b) (f x y).toInt := by
  have big : ∀ z : Int64, z.toInt ≤ 9223372036854775807 := fun z => by have := (fb_rngL z).2; omega
  unfold b_bl
  split
  · have ef : f = fun x y => x + y := by
      match len, hf with
      | 1, hf => exact (Option.some.inj hf).symm
    rw [ef]
    exact bs_j_R h (li_e_add hx hy) (fun h1 h2 => fb_addL h1 h2)
  · have ef : f = fun x y => x - y := by
      match len, hf with
      | 1, hf => exact (Option.some.inj hf).symm
    rw [ef]
    exact bs_j_R h (li_e_sub hx hy) (fun h1 h2 => fb_subL h1 h2)
  · rw [ai_bl_land hf]
    have v1 := li_v_ok h.1 hx
    have v2 := li_v_ok h.1 hy
    have eF : bq_F 1001 x.toInt y.toInt = (x &&& y).toInt := by
      show (Int64.ofInt x.toInt &&& Int64.ofInt y.toInt).toInt = _
      rw [fb_asL, fb_asL]
    split
    · next q hq =>
      obtain ⟨w, z, w1, w2, w3⟩ := b_bj_ok h hq hx hy
      show bs_R nu g (bs_q s 1003 q.1 q.2 0 255) (x &&& y).toInt
      rw [w3]
      rw [← bq_F3]
      exact bs_q_R h (k := 1003) (by decide) (by decide) w1 w2 (by rw [bq_F3]; exact (bq_b_rng w z).1) (by rw [bq_F3]; exact (bq_b_rng w z).2)
    split
    · next t ht =>
      show bs_R nu g (bs_q s 1001 a b 0 t) (x &&& y).toInt
      rw [← eF]
      refine bs_q_R h (by decide) (by decide) hx hy ?_ ?_
      all_goals
        rw [eF]
        unfold b_md at ht
        split at ht
        · next c1 =>
          have := b_and64' x y (by omega)
          split at ht
          · next c2 =>
            have := b_and64 x y (by omega)
            cases ht
            omega
          · cases ht
            omega
        · split at ht
          · next c2 =>
            have := b_and64 x y (by omega)
            cases ht
            omega
          · cases ht
    · show bs_R nu g (bs_q s 1001 a b _ _) (x &&& y).toInt
      rw [← eF]
      exact bs_q_R h (by decide) (by decide) hx hy (by rw [eF]; exact (fb_rngL _).1) (by rw [eF]; exact big _)
  · rw [ai_bl_lor hf]
    split
    · next c =>
      simp only [Bool.and_eq_true, decide_eq_true_eq] at c
      obtain ⟨c1, c2, c3⟩ := c
      unfold b_z at c2
      simp only [Bool.and_eq_true, decide_eq_true_eq] at c2
      have v1 := li_v_ok h.1 hx
      have v2 := li_v_ok h.1 hy
      obtain ⟨q, hq⟩ := li_256_ok hx c1
      refine ⟨nu, nu_le.rf, h, ?_⟩
      show _ = some (x ||| y).toInt
      rw [b_or64 hq (by omega) (by omega) (by omega)]
      exact li_e_add hx hy
    · have eF : bq_F 1002 x.toInt y.toInt = (x ||| y).toInt := by
        show (Int64.ofInt x.toInt ||| Int64.ofInt y.toInt).toInt = _
        rw [fb_asL, fb_asL]
      show bs_R nu g (bs_q s 1002 a b _ _) (x ||| y).toInt
      rw [← eF]
      exact bs_q_R h (by decide) (by decide) hx hy (by rw [eF]; exact (fb_rngL _).1) (by rw [eF]; exact big _)
  · exact bs_tj_R h _
def b_bs (i : Instr) (s : BS) (a b : Li) : BS × Li := match i with
  | .lshl => if decide (li_k s b = some 8) && (decide (0 ≤ (li_v s.1 a).1) && decide ((li_v s.1 (li_mul 256 a)).2 < 9223372036854775808)) then (s, li_mul 256 a) else bs_q s 1000 a b (-9223372036854775808) 9223372036854775807
  | .lshr => bs_q s 1006 a b (-9223372036854775808) 9223372036854775807
  | .lushr => bs_q s 1007 a b (-9223372036854775808) 9223372036854775807
  | _ => bs_tj s
theorem b_bs_ok {nu : List Int} {g : BG} {s : BS} (h : bs_ok nu g s) {i : Instr} {len : Nat} {f : Int64 → Int32 → Int64} (hf : ai_bs i len = some f) {a b : Li} {x : Int64} {y : Int32} (hx : li_e nu a = some x.toInt) (hy : li_e nu b = some y.toInt) : bs_R nu g (b_bs i s a b) (f x y).toInt := by
  have big : ∀ z : Int64, z.toInt ≤ 9223372036854775807 := fun z => by have := (fb_rngL z).2; omega
  unfold b_bs
  split
  · rw [ai_bs_lshl hf]
    split
    · next c =>
      simp only [Bool.and_eq_true, decide_eq_true_eq] at c
      obtain ⟨c1, c2, c3⟩ := c
      have v1 := li_v_ok h.1 hx
      have v2 := li_v_ok h.1 (li_e_mul 256 hx)
      refine ⟨nu, nu_le.rf, h, ?_⟩
      show _ = some (x <<< (y.toInt64 &&& 63)).toInt
      rw [b_shl64 (li_k_ok h c1 hy) (by omega) (by omega)]
      exact li_e_mul 256 hx
    · have eF : bq_F 1000 x.toInt y.toInt = (x <<< (y.toInt64 &&& 63)).toInt := by
        show (Int64.ofInt x.toInt <<< ((Int32.ofInt y.toInt).toInt64 &&& 63)).toInt = _
        rw [fb_asL, fb_asI]
      show bs_R nu g (bs_q s 1000 a b _ _) (x <<< (y.toInt64 &&& 63)).toInt
      rw [← eF]
      exact bs_q_R h (by decide) (by decide) hx hy (by rw [eF]; exact (fb_rngL _).1) (by rw [eF]; exact big _)
  · rw [ai_bs_lshr hf]
    have eF : bq_F 1006 x.toInt y.toInt = (x >>> (y.toInt64 &&& 63)).toInt := by
      show (Int64.ofInt x.toInt >>> ((Int32.ofInt y.toInt).toInt64 &&& 63)).toInt = _
      rw [fb_asL, fb_asI]
    show bs_R nu g (bs_q s 1006 a b _ _) (x >>> (y.toInt64 &&& 63)).toInt
    rw [← eF]
    exact bs_q_R h (by decide) (by decide) hx hy (by rw [eF]; exact (fb_rngL _).1) (by rw [eF]; exact big _)
  · have ef : f = fun (x : Int64) (y : Int32) => (x.toUInt64 >>> (y.toInt64.toUInt64 &&& Int64.toUInt64 63)).toInt64 := by
      match len, hf with
      | 1, hf => exact (Option.some.inj hf).symm
    rw [ef]
    have eF : bq_F 1007 x.toInt y.toInt = (x.toUInt64 >>> (y.toInt64.toUInt64 &&& Int64.toUInt64 63)).toInt64.toInt := by
      show ((Int64.ofInt x.toInt).toUInt64 >>> ((Int32.ofInt y.toInt).toInt64.toUInt64 &&& Int64.toUInt64 63)).toInt64.toInt = _
      rw [fb_asL, fb_asI]
    show bs_R nu g (bs_q s 1007 a b _ _) (x.toUInt64 >>> (y.toInt64.toUInt64 &&& Int64.toUInt64 63)).toInt64.toInt
    rw [← eF]
    exact bs_q_R h (by decide) (by decide) hx hy (by rw [eF]; exact (fb_rngL _).1) (by rw [eF]; exact big _)
  · exact bs_tj_R h _
