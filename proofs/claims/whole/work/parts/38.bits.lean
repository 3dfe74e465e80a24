/-! ===== bits ===== -/
theorem wd_xor (a : Int32) : (0 ≤ a ^^^ 10000) ↔ 0 ≤ a := by
  rw [Int32.le_iff_toInt_le, Int32.le_iff_toInt_le, ← Int32.toInt_toBitVec (a ^^^ 10000), ← Int32.toInt_toBitVec a, Int32.toBitVec_xor]
  have h1 : ∀ x : BitVec 32, (0 ≤ x.toInt) ↔ x.msb = false := by
    intro x
    rw [BitVec.msb_eq_toInt]
    simp
  rw [show (0 : Int32).toInt = 0 from rfl, h1, h1, BitVec.msb_xor]
  have h2 : (Int32.toBitVec 10000).msb = false := by decide
  rw [h2]
  simp
theorem wd_signum (a : Int64) : fZ_signum_J a = Int32.ofInt (nu_sg a.toInt) := by
  have e1 : ∀ x : Int64, (tk_lshr x 63).toInt = x.toInt / 2 ^ 63 := by
    intro x
    unfold tk_lshr
    rw [← Int64.toInt_toBitVec, Int64.toBitVec_shiftRight, show ((Int32.toInt64 63 &&& 63).toBitVec.smod 64) = 63#64 by decide, BitVec.toInt_sshiftRight']
    rw [show (63#64).toNat = 63 from rfl, Int64.toInt_toBitVec, Int.shiftRight_eq_div_pow]
    rfl
  have e2 : ∀ x : Int64, (tk_lushr x 63).toBitVec.toNat = x.toBitVec.toNat / 2 ^ 63 := by
    intro x
    unfold tk_lushr
    rw [show (Int32.toInt64 63).toUInt64 &&& Int64.toUInt64 63 = (63 : UInt64) by decide]
    show (x.toUInt64 >>> (63 : UInt64)).toBitVec.toNat = _
    rw [UInt64.toBitVec_shiftRight]
    show (x.toBitVec >>> (63#64)).toNat = _
    rw [BitVec.ushiftRight_eq', BitVec.toNat_ushiftRight, Nat.shiftRight_eq_div_pow]
    rfl
  have hr := lo_rng a
  unfold fZ_signum_J
  rcases Int.lt_trichotomy a.toInt 0 with h | h | h
  · have h1 : tk_lshr a 63 = -1 := by
      apply lo_ext
      rw [e1, show (-1 : Int64).toInt = -1 from rfl]
      omega
    rw [h1, nu_sg_neg1 h]
    have : ∀ y : Int64, (-1 : Int64) ||| y = -1 := by
      intro y
      rw [← Int64.toBitVec_inj, Int64.toBitVec_or]
      show BitVec.allOnes 64 ||| y.toBitVec = BitVec.allOnes 64
      exact BitVec.allOnes_or
    rw [this]
    rfl
  · have : a = 0 := lo_z.mpr h
    subst this
    decide
  · have h1 : tk_lshr a 63 = 0 := by
      apply lo_ext
      rw [e1, show (0 : Int64).toInt = 0 from rfl]
      omega
    have h2 : tk_lushr (-a) 63 = 1 := by
      rw [← Int64.toBitVec_inj]
      apply BitVec.eq_of_toNat_eq
      rw [e2]
      have h3 : (-a).toInt = -a.toInt := lo_neg (by constructor <;> omega)
      have h4 := Int64.toInt_toBitVec (-a)
      rw [h3, BitVec.toInt_eq_toNat_cond] at h4
      have h5 := (-a).toBitVec.isLt
      show (-a).toBitVec.toNat / 2 ^ 63 = 1
      split at h4 <;> omega
    rw [h1, h2, nu_sg_pos h]
    decide
def bg_u (x : Int32) : Nat := x.toBitVec.toNat
def bg_U (x : Int64) : Nat := x.toBitVec.toNat
theorem bg_u_lt (x : Int32) : bg_u x < 4294967296 := x.toBitVec.isLt
theorem bg_U_lt (x : Int64) : bg_U x < 18446744073709551616 := x.toBitVec.isLt
theorem bg_mask (x : Int32) : bg_U (Int32.toInt64 x &&& 4294967295) = bg_u x := by
  unfold bg_U bg_u
  rw [Int64.toBitVec_and, BitVec.toNat_and, show (Int64.toBitVec 4294967295).toNat = 2 ^ 32 - 1 from rfl, Nat.and_two_pow_sub_one_eq_mod, show (Int32.toInt64 x).toBitVec = x.toBitVec.signExtend 64 from rfl, BitVec.toNat_signExtend, BitVec.toNat_setWidth]
  have := x.toBitVec.isLt
  split <;> omega
theorem bg_lo (x : Int64) : bg_u (Int64.toInt32 x) = bg_U x % 4294967296 := by
  unfold bg_U bg_u
  show (BitVec.signExtend 32 x.toBitVec).toNat = _
  rw [BitVec.signExtend_eq_setWidth_of_le _ (by decide), BitVec.toNat_setWidth]
theorem bg_hi (x : Int64) : bg_U (tk_lushr x 32) = bg_U x / 4294967296 := by
  unfold bg_U tk_lushr
  rw [show (Int32.toInt64 32).toUInt64 &&& Int64.toUInt64 63 = (32 : UInt64) by decide]
  show (x.toUInt64 >>> (32 : UInt64)).toBitVec.toNat = _
  rw [UInt64.toBitVec_shiftRight]
  show (x.toBitVec >>> (32#64)).toNat = _
  rw [BitVec.ushiftRight_eq', BitVec.toNat_ushiftRight, Nat.shiftRight_eq_div_pow]
  rfl
theorem bg_add (a b : Int64) : bg_U (a + b) = (bg_U a + bg_U b) % 18446744073709551616 := by
  unfold bg_U
  rw [Int64.toBitVec_add, BitVec.toNat_add]
theorem bg_mul (a b : Int64) : bg_U (a * b) = (bg_U a * bg_U b) % 18446744073709551616 := by
  unfold bg_U
  rw [Int64.toBitVec_mul, BitVec.toNat_mul]
theorem bg_toInt (x : Int64) : x.toInt = if bg_U x < 9223372036854775808 then (bg_U x : Int) else (bg_U x : Int) - 18446744073709551616 := by
  rw [← Int64.toInt_toBitVec, BitVec.toInt_eq_toNat_cond]
  unfold bg_U
  split <;> split <;> omega
theorem bg_ext32 {x y : Int32} (h : bg_u x = bg_u y) : x = y := by
  rw [← Int32.toBitVec_inj]
  exact BitVec.eq_of_toNat_eq h
