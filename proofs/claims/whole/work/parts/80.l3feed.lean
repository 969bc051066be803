section L3FEED
theorem mb_le (e : Int) (i : Nat) : 0 ≤ mbF e i ∧ mbF e i ≤ 255 := by
  unfold mbF l2i32 and64
  rw [Int64.ofInt_toInt]
  generalize Int64.ofInt (shr64 e (8 * (i : Int))) = x
  have hb : ((x &&& Int64.ofInt 255).toInt32).toBitVec.toNat ≤ 255 := by
    have : ((x &&& Int64.ofInt 255).toInt32).toBitVec.toNat = x.toBitVec.toNat % 256 := by
      show (BitVec.signExtend 32 (x.toBitVec &&& (255#64))).toNat = _
      rw [BitVec.signExtend_eq_setWidth_of_le _ (by omega), BitVec.toNat_setWidth, BitVec.toNat_and, show (255#64).toNat = 2 ^ 8 - 1 from rfl, Nat.and_two_pow_sub_one_eq_mod]
      omega
    omega
  show 0 ≤ ((x &&& Int64.ofInt 255).toInt32).toBitVec.toInt ∧ ((x &&& Int64.ofInt 255).toInt32).toBitVec.toInt ≤ 255
  rw [BitVec.toInt_eq_toNat_of_lt (by omega)]
  omega
end L3FEED
