/-! letters of a label: shifts and remainders -/
theorem nI_and31 {v : Nat} (hv : v < 2 ^ 31) : nI v &&& 31 = nI (v % 32) := by
  apply Int32.toBitVec_inj.mp
  show BitVec.ofNat 32 v &&& 31#32 = BitVec.ofNat 32 (v % 32)
  apply BitVec.eq_of_toNat_eq
  rw [BitVec.toNat_and, BitVec.toNat_ofNat, BitVec.toNat_ofNat, BitVec.toNat_ofNat, Nat.mod_eq_of_lt (show v < 2 ^ 32 by omega), Nat.mod_eq_of_lt (show v % 32 < 2 ^ 32 by omega), show 31 % 2 ^ 32 = 2 ^ 5 - 1 from rfl, Nat.and_two_pow_sub_one_eq_mod]
theorem nI_shr5 {v : Nat} (hv : v < 2 ^ 31) : nI v >>> (5 &&& 31) = nI (v / 32) := by
  apply Int32.toBitVec_inj.mp
  show BitVec.sshiftRight' (BitVec.ofNat 32 v) (((5 : Int32) &&& 31).toBitVec.smod 32) = BitVec.ofNat 32 (v / 32)
  rw [show (((5 : Int32) &&& 31).toBitVec.smod 32) = 5#32 from by decide]
  show BitVec.sshiftRight (BitVec.ofNat 32 v) 5 = BitVec.ofNat 32 (v / 32)
  have hm : (BitVec.ofNat 32 v).msb = false := by
    rw [BitVec.msb_eq_false_iff_two_mul_lt, BitVec.toNat_ofNat, Nat.mod_eq_of_lt (show v < 2 ^ 32 by omega)]
    omega
  rw [BitVec.sshiftRight_eq_of_msb_false hm]
  apply BitVec.eq_of_toNat_eq
  rw [BitVec.toNat_ushiftRight, BitVec.toNat_ofNat, BitVec.toNat_ofNat, Nat.mod_eq_of_lt (show v < 2 ^ 32 by omega), Nat.mod_eq_of_lt (show v / 32 < 2 ^ 32 by omega), Nat.shiftRight_eq_div_pow]
theorem nI_div32 {v : Nat} (hv : v < 2 ^ 31) : nI v / 32 = nI (v / 32) := by
  apply Int32.toInt_inj.mp
  rw [Int32.toInt_div, nI_toInt hv, nI_toInt (show v / 32 < 2 ^ 31 by omega), show (32 : Int32).toInt = ((32 : Nat) : Int) from by decide, ← Int.ofNat_tdiv]
  rw [Int.bmod_def]
  have : ((v / 32 : Nat) : Int) % ((2 ^ 32 : Nat) : Int) = ((v / 32 : Nat) : Int) := Int.emod_eq_of_lt (by omega) (by omega)
  rw [this, if_pos (by omega)]
theorem nI_rem32 {v : Nat} (hv : v < 2 ^ 31) : nI v - nI v / 32 * 32 = nI (v % 32) := by
  rw [nI_div32 hv, show (32 : Int32) = nI 32 from rfl, pk_mul]
  have : nI v = nI (v % 32) + nI (v / 32 * 32) := by
    rw [nI_add]
    congr 1
    omega
  rw [this]
  exact Int32.add_sub_cancel _ _
