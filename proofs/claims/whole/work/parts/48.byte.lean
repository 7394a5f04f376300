/-! the bytes of a long -/
theorem byte_one (a : Int64) (s : Int64) (k : Nat) (h1 : s.toBitVec.toNat % 64 = k) (h2 : (s.toBitVec.smod 64#64).toNat = k) (hk : k ≤ 56) : ((((a).toUInt64 >>> (s.toUInt64)).toInt64)).toInt32 &&& (255 : Int32) = ((a >>> s) &&& (255 : Int64)).toInt32 := by
  apply Int32.toBitVec_inj.mp
  apply BitVec.eq_of_getLsbD_eq
  intro i hi
  simp
  rw [h1, h2]
  by_cases h8 : i < 8
  · rw [BitVec.getLsbD_signExtend, BitVec.getLsbD_signExtend, BitVec.getLsbD_sshiftRight, BitVec.getLsbD_ushiftRight]
    simp [show i < 64 by omega, show k + i < 64 by omega, show ¬ 64 ≤ i by omega]
  · have h9 : (255#32).getLsbD i = false := by
      rw [BitVec.getLsbD_ofNat, Nat.testBit_lt_two_pow (Nat.lt_of_lt_of_le (show 255 < 2 ^ 8 by decide) (Nat.pow_le_pow_right (by decide) (by omega))), Bool.and_false]
    rw [h9, Bool.and_false, Bool.and_false]
theorem byte_eq (a : Int64) (j : Nat) (hj : j < 8) : gX7_byteOf a (nI (8 * j)) = ((((a >>> ((nI (8 * j)).toInt64 &&& 63)) &&& (255 : Int64))).toInt32) := by
  unfold gX7_byteOf
  have h : (nI (8 * j)).toInt64.toUInt64 &&& Int64.toUInt64 63 = ((nI (8 * j)).toInt64 &&& 63).toUInt64 := rfl
  rw [h]
  rcases (show j = 0 ∨ j = 1 ∨ j = 2 ∨ j = 3 ∨ j = 4 ∨ j = 5 ∨ j = 6 ∨ j = 7 by omega) with rfl | rfl | rfl | rfl | rfl | rfl | rfl | rfl
  · exact byte_one a _ 0 (by decide +kernel) (by decide +kernel) (by decide)
  · exact byte_one a _ 8 (by decide +kernel) (by decide +kernel) (by decide)
  · exact byte_one a _ 16 (by decide +kernel) (by decide +kernel) (by decide)
  · exact byte_one a _ 24 (by decide +kernel) (by decide +kernel) (by decide)
  · exact byte_one a _ 32 (by decide +kernel) (by decide +kernel) (by decide)
  · exact byte_one a _ 40 (by decide +kernel) (by decide +kernel) (by decide)
  · exact byte_one a _ 48 (by decide +kernel) (by decide +kernel) (by decide)
  · exact byte_one a _ 56 (by decide +kernel) (by decide +kernel) (by decide)
