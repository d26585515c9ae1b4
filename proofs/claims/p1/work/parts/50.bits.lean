/-! ===== the signs of a word, and the method that looks at them ===== -/
def t_c (w : Int64) (k : Nat) : Int32 := ((w >>> ((nI (8 * k)).toInt64 &&& 63)) &&& 255).toInt32
def t_G (x : Int32) : Prop := (97 ≤ x ∧ x ≤ 122) ∨ x = 46 ∨ x = 47 ∨ x = 32
theorem t_255 (n i : Nat) (h : ¬ i < 8) : (255#n).getLsbD i = false := by
  rw [BitVec.getLsbD_ofNat]
  have : Nat.testBit 255 i = false := Nat.testBit_lt_two_pow (Nat.lt_of_lt_of_le (show 255 < 2 ^ 8 by decide) (Nat.pow_le_pow_right (by decide) (by omega)))
  rw [this, Bool.and_false]
theorem t_255' (n i : Nat) (h : i < 8) (hn : 8 ≤ n) : (255#n).getLsbD i = true := by
  rw [BitVec.getLsbD_ofNat]
  have : Nat.testBit 255 i = true := by
    match i, h with
    | 0, _ => rfl
    | 1, _ => rfl
    | 2, _ => rfl
    | 3, _ => rfl
    | 4, _ => rfl
    | 5, _ => rfl
    | 6, _ => rfl
    | 7, _ => rfl
  rw [this, Bool.and_true, decide_eq_true_eq]
  omega
theorem t_bit (w : BitVec 64) (s : Nat) (hs : s ≤ 56) : ((w >>> s).signExtend 32) &&& 255#32 = ((w.sshiftRight s) &&& 255#64).signExtend 32 := by
  apply BitVec.eq_of_getLsbD_eq
  intro i hi
  have hi64 : i < 64 := by omega
  rw [BitVec.getLsbD_and, BitVec.getLsbD_signExtend, BitVec.getLsbD_signExtend, if_pos hi64, if_pos hi64, BitVec.getLsbD_and]
  by_cases h8 : i < 8
  · have hsi : s + i < 64 := by omega
    rw [t_255' 32 i h8 (by decide), t_255' 64 i h8 (by decide), BitVec.getLsbD_ushiftRight, BitVec.getLsbD_sshiftRight, if_pos hsi]
    simp only [Bool.and_true, show decide (64 ≤ i) = false from decide_eq_false (by omega), Bool.not_false, Bool.true_and]
  · rw [t_255 32 i h8, t_255 64 i h8]
    simp only [Bool.and_false]
theorem t_eqk (w : Int64) (k : Nat) (hk : k < 8) (a : UInt64) (b : Int64) (ha : (a.toBitVec % 64).toNat = 8 * k) (hb : (b.toBitVec.smod 64).toNat = 8 * k) : ((w.toUInt64 >>> a).toInt64).toInt32 &&& 255 = ((w >>> b) &&& 255).toInt32 := by
  apply Int32.toBitVec_inj.mp
  have e1 : (w.toUInt64 >>> a).toInt64.toBitVec = w.toBitVec >>> (8 * k) := by
    show (w.toUInt64 >>> a).toBitVec = _
    rw [UInt64.toBitVec_shiftRight, BitVec.ushiftRight_eq', ha]
    rfl
  have e2 : (w >>> b).toBitVec = w.toBitVec.sshiftRight (8 * k) := by
    rw [Int64.toBitVec_shiftRight, BitVec.sshiftRight_eq', hb]
  rw [Int32.toBitVec_and, Int64.toBitVec_toInt32, Int64.toBitVec_toInt32, Int64.toBitVec_and, e1, e2]
  exact t_bit _ _ (by omega)
theorem t_eq (w : Int64) : ∀ k, k < 8 → ((w.toUInt64 >>> ((nI (8 * k)).toInt64.toUInt64 &&& Int64.toUInt64 63)).toInt64).toInt32 &&& 255 = t_c w k
  | 0, h => t_eqk w 0 h _ _ (by decide) (by decide)
  | 1, h => t_eqk w 1 h _ _ (by decide) (by decide)
  | 2, h => t_eqk w 2 h _ _ (by decide) (by decide)
  | 3, h => t_eqk w 3 h _ _ (by decide) (by decide)
  | 4, h => t_eqk w 4 h _ _ (by decide) (by decide)
  | 5, h => t_eqk w 5 h _ _ (by decide) (by decide)
  | 6, h => t_eqk w 6 h _ _ (by decide) (by decide)
  | 7, h => t_eqk w 7 h _ _ (by decide) (by decide)
