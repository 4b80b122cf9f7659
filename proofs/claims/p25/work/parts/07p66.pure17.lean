/-! eight characters in a long -/
def uN (x : Int64) : Nat := x.toBitVec.toNat
theorem uN_lt (x : Int64) : uN x < 2 ^ 64 := x.toBitVec.isLt
theorem nI_bv (n : Nat) : (nI n).toBitVec.toNat = n % 2 ^ 32 := by
  show (BitVec.ofNat 32 n).toNat = n % 2 ^ 32
  rw [BitVec.toNat_ofNat]
theorem low32 (x : Int64) : x.toInt32.toBitVec.toNat = uN x % 2 ^ 32 := by
  rw [Int64.toBitVec_toInt32, BitVec.signExtend_eq_setWidth_of_le _ (by decide), BitVec.toNat_setWidth]
  rfl
theorem low8 (x : Int64) : x.toInt32 &&& (255 : Int32) = nI (uN x % 256) := by
  apply Int32.toBitVec_inj.mp
  apply BitVec.eq_of_toNat_eq
  rw [Int32.toBitVec_and, BitVec.toNat_and, low32, nI_bv, show (255 : Int32).toBitVec.toNat = 2 ^ 8 - 1 by decide, Nat.and_two_pow_sub_one_eq_mod]
  omega
theorem uN_and (x : Int64) : uN (x &&& (255 : Int64)) = uN x % 256 := by
  unfold uN
  rw [Int64.toBitVec_and, BitVec.toNat_and, show (255 : Int64).toBitVec.toNat = 2 ^ 8 - 1 by decide +kernel, Nat.and_two_pow_sub_one_eq_mod]
theorem and8 (x : Int64) : (x &&& (255 : Int64)).toInt32 = nI (uN x % 256) := by
  apply Int32.toBitVec_inj.mp
  apply BitVec.eq_of_toNat_eq
  rw [low32, uN_and, nI_bv]
theorem uN_shr (x : Int64) (c : UInt64) (n : Nat) (h : (c.toBitVec % 64).toNat = n) : uN ((x.toUInt64 >>> c).toInt64) = uN x / 2 ^ n := by
  show ((x.toUInt64 >>> c).toBitVec).toNat = _
  rw [UInt64.toBitVec_shiftRight]
  show (x.toBitVec >>> (c.toBitVec % 64).toNat).toNat = _
  rw [BitVec.toNat_ushiftRight, h, Nat.shiftRight_eq_div_pow]
  rfl
theorem uN_shr8 (x : Int64) : uN ((x.toUInt64 >>> ((8 : Int32).toInt64.toUInt64 &&& Int64.toUInt64 63)).toInt64) = uN x / 256 := uN_shr x _ 8 (by decide +kernel)
theorem uN_shr8k (x : Int64) {k : Nat} (hk : k < 8) : uN ((x.toUInt64 >>> ((nI (8 * k)).toInt64.toUInt64 &&& Int64.toUInt64 63)).toInt64) = uN x / 2 ^ (8 * k) := by
  have : k = 0 ∨ k = 1 ∨ k = 2 ∨ k = 3 ∨ k = 4 ∨ k = 5 ∨ k = 6 ∨ k = 7 := by omega
  rcases this with e | e | e | e | e | e | e | e <;> subst e
  · exact uN_shr x _ _ (by decide +kernel)
  · exact uN_shr x _ _ (by decide +kernel)
  · exact uN_shr x _ _ (by decide +kernel)
  · exact uN_shr x _ _ (by decide +kernel)
  · exact uN_shr x _ _ (by decide +kernel)
  · exact uN_shr x _ _ (by decide +kernel)
  · exact uN_shr x _ _ (by decide +kernel)
  · exact uN_shr x _ _ (by decide +kernel)
