/-! ===== feed: bytes of a word ===== -/
theorem low8 {a b : Int32} (h : ∀ i : Nat, i < 8 → a.toBitVec.getLsbD i = b.toBitVec.getLsbD i) : a &&& iz 255 = b &&& iz 255 := by
  apply Int32.toBitVec_inj.mp
  rw [Int32.toBitVec_and, Int32.toBitVec_and]
  apply BitVec.eq_of_getLsbD_eq
  intro i hi
  rw [BitVec.getLsbD_and, BitVec.getLsbD_and]
  by_cases q : i < 8
  · rw [h i q]
  · have e : ∀ i : Nat, i < 32 → (iz 255).toBitVec.getLsbD i = decide (i < 8) := by decide
    rw [e i hi]
    simp [q]
theorem and255 (a : Int32) : ∃ v : Int, 0 ≤ v ∧ v < 256 ∧ a &&& iz 255 = iz v := by
  refine ⟨((a.toBitVec.toNat % 256 : Nat) : Int), by omega, by omega, ?_⟩
  apply iz_bits (by omega) (by omega)
  rw [Int32.toBitVec_and, BitVec.toNat_and, show (iz 255).toBitVec.toNat = 2 ^ 8 - 1 by decide, Nat.and_two_pow_sub_one_eq_mod]
  omega
theorem i8_bit (z : Int32) (i : Nat) (hi : i < 8) : z.toInt8.toInt32.toBitVec.getLsbD i = z.toBitVec.getLsbD i := by
  rw [Int8.toBitVec_toInt32, Int32.toBitVec_toInt8, BitVec.getLsbD_signExtend, if_pos hi, BitVec.getLsbD_signExtend, if_pos (by omega), decide_eq_true hi, decide_eq_true (show i < 32 by omega), Bool.true_and, Bool.true_and]
theorem shr_bit (x : Int32) (k : Nat) (hk : k ≤ 24) (y : Int32) (hy : (y.toBitVec.smod 32#32).toNat = k) (i : Nat) (hi : i < 8) : (x >>> y).toBitVec.getLsbD i = x.toBitVec.getLsbD (k + i) := by
  rw [Int32.toBitVec_shiftRight]
  show (x.toBitVec.sshiftRight (y.toBitVec.smod 32#32).toNat).getLsbD i = _
  rw [hy, BitVec.getLsbD_sshiftRight, if_pos (by omega), decide_eq_false (show ¬ 32 ≤ i by omega)]
  rfl
theorem ushr_bit (x : Int32) (k : Nat) (hk : k ≤ 24) (y : UInt32) (hy : y.toNat = k) (i : Nat) (hi : i < 8) : (x.toUInt32 >>> y).toInt32.toBitVec.getLsbD i = x.toBitVec.getLsbD (k + i) := by
  show ((x.toUInt32 >>> y).toBitVec).getLsbD i = _
  rw [UInt32.toBitVec_shiftRight]
  show (x.toBitVec >>> (y.toBitVec % 32)).getLsbD i = _
  rw [BitVec.ushiftRight_eq', BitVec.getLsbD_ushiftRight, BitVec.toNat_umod]
  show x.toBitVec.getLsbD (y.toNat % 32 + i) = _
  rw [hy, Nat.mod_eq_of_lt (by omega)]
