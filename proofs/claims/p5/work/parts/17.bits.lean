/-! bits of whole numbers that are not below 0 -/
theorem bv32 (x : Nat) (h : x < 2147483648) : (BitVec.ofInt 32 (x : Int)).toNat = x := by
  rw [BitVec.toNat_ofInt]
  omega
theorem bv64 (x : Nat) (h : x < 9223372036854775808) : (BitVec.ofInt 64 (x : Int)).toNat = x := by
  rw [BitVec.toNat_ofInt]
  omega
theorem ti32 {b : BitVec 32} (h : b.toNat < 2147483648) : b.toInt = b.toNat := BitVec.toInt_eq_toNat_of_lt (by first | decide | omega)
theorem ti64 {b : BitVec 64} (h : b.toNat < 9223372036854775808) : b.toInt = b.toNat := BitVec.toInt_eq_toNat_of_lt (by first | decide | omega)
theorem iand_n (x y : Nat) (hx : x < 2147483648) (hy : y < 2147483648) : iand x y = ((x &&& y : Nat) : Int) := by
  have e : (Int32.ofInt (x : Int) &&& Int32.ofInt (y : Int)).toBitVec = BitVec.ofInt 32 x &&& BitVec.ofInt 32 y := rfl
  have h2 : (BitVec.ofInt 32 (x : Int) &&& BitVec.ofInt 32 (y : Int)).toNat = x &&& y := by rw [BitVec.toNat_and, bv32 x hx, bv32 y hy]
  show (Int32.ofInt (x : Int) &&& Int32.ofInt (y : Int)).toBitVec.toInt = _
  rw [e, ti32 (by rw [h2]; exact Nat.lt_of_le_of_lt Nat.and_le_left hx), h2]
theorem ior_n (x y : Nat) (hx : x < 2147483648) (hy : y < 2147483648) : ior x y = ((x ||| y : Nat) : Int) := by
  have e : (Int32.ofInt (x : Int) ||| Int32.ofInt (y : Int)).toBitVec = BitVec.ofInt 32 x ||| BitVec.ofInt 32 y := rfl
  have h2 : (BitVec.ofInt 32 (x : Int) ||| BitVec.ofInt 32 (y : Int)).toNat = x ||| y := by rw [BitVec.toNat_or, bv32 x hx, bv32 y hy]
  show (Int32.ofInt (x : Int) ||| Int32.ofInt (y : Int)).toBitVec.toInt = _
  rw [e, ti32 (by rw [h2]; exact Nat.or_lt_two_pow (n := 31) hx hy), h2]
theorem sh31 (y : Nat) (h : y < 32) : (Int32.ofInt (y : Int) &&& 31).toBitVec.toNat = y := by
  show (BitVec.ofInt 32 (y : Int) &&& 31#32).toNat = y
  rw [BitVec.toNat_and, bv32 y (by first | decide | omega)]
  show y &&& 31 = y
  rw [show (31 : Nat) = 2 ^ 5 - 1 from rfl, Nat.and_two_pow_sub_one_eq_mod]
  omega
theorem ishr_n (x y : Nat) (hx : x < 2147483648) (hy : y < 32) : ishr x y = ((x >>> y : Nat) : Int) := by
  have h0 : (Int32.ofInt (x : Int) >>> (Int32.ofInt (y : Int) &&& 31)).toBitVec = (BitVec.ofInt 32 (x : Int)).sshiftRight' ((Int32.ofInt (y : Int) &&& 31).toBitVec.smod 32) := rfl
  have hm : ((Int32.ofInt (y : Int) &&& 31).toBitVec.smod 32).toNat = y := by
    have e1 : (Int32.ofInt (y : Int) &&& 31).toBitVec = BitVec.ofNat 32 y := by
      apply BitVec.eq_of_toNat_eq
      rw [sh31 y hy, BitVec.toNat_ofNat]
      omega
    rw [e1]
    rcases (show y = 0 ∨ y = 1 ∨ y = 2 ∨ y = 3 ∨ y = 4 ∨ y = 5 ∨ y = 6 ∨ y = 7 ∨ y = 8 ∨ y = 9 ∨ y = 10 ∨ y = 11 ∨ y = 12 ∨ y = 13 ∨ y = 14 ∨ y = 15 ∨ y = 16 ∨ y = 17 ∨ y = 18 ∨ y = 19 ∨ y = 20 ∨ y = 21 ∨ y = 22 ∨ y = 23 ∨ y = 24 ∨ y = 25 ∨ y = 26 ∨ y = 27 ∨ y = 28 ∨ y = 29 ∨ y = 30 ∨ y = 31 by omega) with h | h | h | h | h | h | h | h | h | h | h | h | h | h | h | h | h | h | h | h | h | h | h | h | h | h | h | h | h | h | h | h <;> subst h <;> rfl
  have h2 : ((BitVec.ofInt 32 (x : Int)).sshiftRight' ((Int32.ofInt (y : Int) &&& 31).toBitVec.smod 32)).toNat = x >>> y := by
    rw [BitVec.sshiftRight_eq', hm, BitVec.sshiftRight_eq_of_msb_false, BitVec.toNat_ushiftRight, bv32 x hx]
    rw [BitVec.msb_eq_false_iff_two_mul_lt, bv32 x hx]
    omega
  show (Int32.ofInt (x : Int) >>> (Int32.ofInt (y : Int) &&& 31)).toBitVec.toInt = _
  rw [h0, ti32 (by rw [h2]; exact Nat.lt_of_le_of_lt (Nat.shiftRight_le _ _) hx), h2]
theorem land_n (x y : Nat) (hx : x < 9223372036854775808) (hy : y < 9223372036854775808) : land x y = ((x &&& y : Nat) : Int) := by
  have e : (Int64.ofInt (x : Int) &&& Int64.ofInt (y : Int)).toBitVec = BitVec.ofInt 64 x &&& BitVec.ofInt 64 y := rfl
  have h2 : (BitVec.ofInt 64 (x : Int) &&& BitVec.ofInt 64 (y : Int)).toNat = x &&& y := by rw [BitVec.toNat_and, bv64 x hx, bv64 y hy]
  show (Int64.ofInt (x : Int) &&& Int64.ofInt (y : Int)).toBitVec.toInt = _
  rw [e, ti64 (by rw [h2]; exact Nat.lt_of_le_of_lt Nat.and_le_left hx), h2]
theorem lor_n (x y : Nat) (hx : x < 9223372036854775808) (hy : y < 9223372036854775808) : lor x y = ((x ||| y : Nat) : Int) := by
  have e : (Int64.ofInt (x : Int) ||| Int64.ofInt (y : Int)).toBitVec = BitVec.ofInt 64 x ||| BitVec.ofInt 64 y := rfl
  have h2 : (BitVec.ofInt 64 (x : Int) ||| BitVec.ofInt 64 (y : Int)).toNat = x ||| y := by rw [BitVec.toNat_or, bv64 x hx, bv64 y hy]
  show (Int64.ofInt (x : Int) ||| Int64.ofInt (y : Int)).toBitVec.toInt = _
  rw [e, ti64 (by rw [h2]; exact Nat.or_lt_two_pow (n := 63) hx hy), h2]
theorem ishl_ok : ((List.range 31).all fun y => decide (ishl 1 (y : Int) = ((2 ^ y : Nat) : Int))) = true := by decide +kernel
theorem ishl_n (y : Nat) (h : y < 31) : ishl 1 y = ((2 ^ y : Nat) : Int) := of_decide_eq_true (List.all_eq_true.mp ishl_ok y (List.mem_range.mpr h))
theorem lshl_ok : ((List.range 63).all fun y => decide (lshl 1 (y : Int) = ((2 ^ y : Nat) : Int))) = true := by decide +kernel
theorem lshl_n (y : Nat) (h : y < 63) : lshl 1 y = ((2 ^ y : Nat) : Int) := of_decide_eq_true (List.all_eq_true.mp lshl_ok y (List.mem_range.mpr h))
theorem lushr_n (x y : Nat) (hx : x < 9223372036854775808) (hy : y < 64) : lushr x y = ((x >>> y : Nat) : Int) := by
  have h0 : (((Int64.ofInt (x : Int)).toUInt64 >>> ((Int32.ofInt (y : Int)).toInt64.toUInt64 &&& Int64.toUInt64 63)).toInt64).toBitVec = (BitVec.ofInt 64 (x : Int)) >>> (((Int32.ofInt (y : Int)).toInt64.toUInt64 &&& Int64.toUInt64 63) % 64).toBitVec := rfl
  have hm : ((((Int32.ofInt (y : Int)).toInt64.toUInt64 &&& Int64.toUInt64 63) % 64).toBitVec).toNat = y := by
    have e1 : (Int32.ofInt (y : Int)).toInt64 = Int64.ofInt y := ofl_i2l (by unfold r32; omega)
    rw [e1]
    show ((BitVec.ofInt 64 (y : Int) &&& 63#64) % 64#64).toNat = y
    rw [BitVec.toNat_umod, BitVec.toNat_and, bv64 y (by first | decide | omega)]
    show (y &&& 63) % 64 = y
    rw [show (63 : Nat) = 2 ^ 6 - 1 from rfl, Nat.and_two_pow_sub_one_eq_mod]
    omega
  have h2 : ((BitVec.ofInt 64 (x : Int)) >>> (((Int32.ofInt (y : Int)).toInt64.toUInt64 &&& Int64.toUInt64 63) % 64).toBitVec).toNat = x >>> y := by
    rw [BitVec.ushiftRight_eq', BitVec.toNat_ushiftRight, hm, bv64 x hx]
  show (((Int64.ofInt (x : Int)).toUInt64 >>> ((Int32.ofInt (y : Int)).toInt64.toUInt64 &&& Int64.toUInt64 63)).toInt64).toBitVec.toInt = _
  rw [h0, ti64 (by rw [h2]; exact Nat.lt_of_le_of_lt (Nat.shiftRight_le _ _) hx), h2]
theorem tb_iff (x y : Nat) : (x >>> y) &&& 1 = if x.testBit y then 1 else 0 := by
  rw [Nat.and_one_is_mod, Nat.testBit_eq_decide_div_mod_eq, Nat.shiftRight_eq_div_pow]
  by_cases h : x / 2 ^ y % 2 = 1
  · simp [h]
  · have : x / 2 ^ y % 2 = 0 := by omega
    simp [this]
/-- a bit of an int, of a long -/
theorem ibit (x y : Int) (hx : 0 ≤ x) (hx2 : x < 2147483648) (hy : 0 ≤ y) (hy2 : y < 32) : iand (ishr x y) 1 = if x.toNat.testBit y.toNat then 1 else 0 := by
  obtain ⟨m, rfl⟩ := Int.eq_ofNat_of_zero_le hx
  obtain ⟨k, rfl⟩ := Int.eq_ofNat_of_zero_le hy
  rw [ishr_n m k (by first | decide | omega) (by first | decide | omega)]
  have := iand_n (m >>> k) 1 (Nat.lt_of_le_of_lt (Nat.shiftRight_le _ _) (by first | decide | omega)) (by first | decide | omega)
  rw [show ((1 : Nat) : Int) = 1 from rfl] at this
  rw [this, tb_iff]
  simp only [Int.toNat_natCast]
  split <;> rfl
theorem lbit (x y : Int) (hx : 0 ≤ x) (hx2 : x < 9223372036854775808) (hy : 0 ≤ y) (hy2 : y < 64) : land (lushr x y) 1 = if x.toNat.testBit y.toNat then 1 else 0 := by
  obtain ⟨m, rfl⟩ := Int.eq_ofNat_of_zero_le hx
  obtain ⟨k, rfl⟩ := Int.eq_ofNat_of_zero_le hy
  rw [lushr_n m k (by first | decide | omega) (by first | decide | omega)]
  have := land_n (m >>> k) 1 (Nat.lt_of_le_of_lt (Nat.shiftRight_le _ _) (by first | decide | omega)) (by first | decide | omega)
  rw [show ((1 : Nat) : Int) = 1 from rfl] at this
  rw [this, tb_iff]
  simp only [Int.toNat_natCast]
  split <;> rfl
