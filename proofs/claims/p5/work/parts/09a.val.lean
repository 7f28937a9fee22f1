/-! FROM THE PLAIN MACHINE TO THE MACHINE: values -/
noncomputable def r32 (x : Int) : Prop := -2147483648 ≤ x ∧ x ≤ 2147483647
noncomputable def r64 (x : Int) : Prop := -9223372036854775808 ≤ x ∧ x ≤ 9223372036854775807
theorem w32_r (x : Int) : r32 (w32 x) := by
  unfold w32 r32 Int.bmod
  constructor <;> (dsimp only; split <;> omega)
theorem w64_r (x : Int) : r64 (w64 x) := by
  unfold w64 r64 Int.bmod
  constructor <;> (dsimp only; split <;> omega)
theorem w32_id {x : Int} (h : r32 x) : w32 x = x := by
  unfold r32 at h
  unfold w32 Int.bmod
  dsimp only
  split <;> omega
theorem w64_id {x : Int} (h : r64 x) : w64 x = x := by
  unfold r64 at h
  unfold w64 Int.bmod
  dsimp only
  split <;> omega
theorem w32_toInt (x : Int) : (Int32.ofInt x).toInt = w32 x := Int32.toInt_ofInt
theorem w64_toInt (x : Int) : (Int64.ofInt x).toInt = w64 x := Int64.toInt_ofInt
theorem of32 {x : Int} (h : r32 x) : (Int32.ofInt x).toInt = x := by rw [w32_toInt, w32_id h]
theorem of64 {x : Int} (h : r64 x) : (Int64.ofInt x).toInt = x := by rw [w64_toInt, w64_id h]
theorem to32 (x : Int32) : Int32.ofInt x.toInt = x := Int32.ofInt_toInt x
theorem to64 (x : Int64) : Int64.ofInt x.toInt = x := Int64.ofInt_toInt x
theorem i32_r (x : Int32) : r32 x.toInt := by
  have h := w32_r x.toInt
  rw [← w32_toInt, to32] at h
  exact h
theorem i64_r (x : Int64) : r64 x.toInt := by
  have h := w64_r x.toInt
  rw [← w64_toInt, to64] at h
  exact h
theorem w32_w (x : Int) : Int32.ofInt (w32 x) = Int32.ofInt x := by rw [← w32_toInt, to32]
theorem w64_w (x : Int) : Int64.ofInt (w64 x) = Int64.ofInt x := by rw [← w64_toInt, to64]
theorem ofi_add (a b : Int) : Int32.ofInt (w32 (a + b)) = Int32.ofInt a + Int32.ofInt b := by rw [w32_w, Int32.ofInt_add]
theorem ofi_sub (a b : Int) : Int32.ofInt (w32 (a - b)) = Int32.ofInt a - Int32.ofInt b := by rw [w32_w, Int32.ofInt_sub]
theorem ofi_mul (a b : Int) : Int32.ofInt (w32 (a * b)) = Int32.ofInt a * Int32.ofInt b := by rw [w32_w, Int32.ofInt_mul]
theorem ofl_add (a b : Int) : Int64.ofInt (w64 (a + b)) = Int64.ofInt a + Int64.ofInt b := by rw [w64_w, Int64.ofInt_add]
theorem ofl_sub (a b : Int) : Int64.ofInt (w64 (a - b)) = Int64.ofInt a - Int64.ofInt b := by rw [w64_w, Int64.ofInt_sub]
theorem ofl_mul (a b : Int) : Int64.ofInt (w64 (a * b)) = Int64.ofInt a * Int64.ofInt b := by rw [w64_w, Int64.ofInt_mul]
theorem ofl_neg (a : Int) : Int64.ofInt (w64 (-a)) = -Int64.ofInt a := by rw [w64_w, Int64.ofInt_neg]
theorem ofi_div {a b : Int} (ha : r32 a) (hb : r32 b) : Int32.ofInt (idiv a b) = Int32.ofInt a / Int32.ofInt b := by
  apply Int32.toInt_inj.mp
  unfold idiv
  rw [w32_w, w32_toInt, Int32.toInt_div, of32 ha, of32 hb]
  rfl
theorem ofl_div {a b : Int} (ha : r64 a) (hb : r64 b) : Int64.ofInt (ldiv a b) = Int64.ofInt a / Int64.ofInt b := by
  apply Int64.toInt_inj.mp
  unfold ldiv
  rw [w64_w, w64_toInt, Int64.toInt_div, of64 ha, of64 hb]
  rfl
theorem tmod_r {a b lo hi : Int} (hb : b ≠ 0) (h1 : lo ≤ a) (h2 : a ≤ hi) (h3 : lo ≤ 0) (h4 : 0 ≤ hi) : lo ≤ a.tmod b ∧ a.tmod b ≤ hi := by
  have e := Int.tmod_add_mul_tdiv a b
  rcases Int.le_total 0 a with h | h
  · have p1 : 0 ≤ a.tmod b := Int.tmod_nonneg b h
    have p2 : a.tmod b ≤ a := by
      have h5 : (a.tmod b).natAbs ≤ a.natAbs := by
        rw [Int.natAbs_tmod]
        exact Nat.mod_le _ _
      omega
    omega
  · have p1 : a.tmod b ≤ 0 := by
      have := Int.neg_tmod a b
      have h5 : 0 ≤ (-a).tmod b := Int.tmod_nonneg b (by first | decide | omega)
      omega
    have h5 : (a.tmod b).natAbs ≤ a.natAbs := by
      rw [Int.natAbs_tmod]
      exact Nat.mod_le _ _
    omega
theorem rem32_r {a b : Int} (hb : b ≠ 0) (ha : r32 a) : r32 (a.tmod b) := tmod_r hb ha.1 ha.2 (by first | decide | omega) (by first | decide | omega)
theorem rem64_r {a b : Int} (hb : b ≠ 0) (ha : r64 a) : r64 (a.tmod b) := tmod_r hb ha.1 ha.2 (by first | decide | omega) (by first | decide | omega)
theorem ofi_rem {a b : Int} (ha : r32 a) (hb : r32 b) (hb0 : b ≠ 0) : Int32.ofInt (a.tmod b) = Int32.ofInt a - Int32.ofInt a / Int32.ofInt b * Int32.ofInt b := by
  apply Int32.toInt_inj.mp
  rw [rem_toInt, of32 ha, of32 hb, of32 (rem32_r hb0 ha)]
theorem ofl_rem {a b : Int} (ha : r64 a) (hb : r64 b) (hb0 : b ≠ 0) : Int64.ofInt (a.tmod b) = Int64.ofInt a - Int64.ofInt a / Int64.ofInt b * Int64.ofInt b := by
  have e := Int.tmod_add_mul_tdiv a b
  have e2 : a.tmod b = a - a.tdiv b * b := by rw [Int.mul_comm (a.tdiv b) b]; omega
  have e3 : Int64.ofInt (a.tdiv b) = Int64.ofInt a / Int64.ofInt b := by
    rw [← ofl_div ha hb]
    unfold ldiv
    rw [w64_w]
  rw [e2, Int64.ofInt_sub, Int64.ofInt_mul, e3]
theorem zero32 {y : Int} (hy : r32 y) : Int32.ofInt y = 0 ↔ y = 0 := by
  constructor
  · intro h
    have := congrArg Int32.toInt h
    rw [of32 hy] at this
    exact this
  · rintro rfl; rfl
theorem zero64 {y : Int} (hy : r64 y) : Int64.ofInt y = 0 ↔ y = 0 := by
  constructor
  · intro h
    have := congrArg Int64.toInt h
    rw [of64 hy] at this
    exact this
  · rintro rfl; rfl
theorem lt32 {x y : Int} (hx : r32 x) (hy : r32 y) : Int32.ofInt x < Int32.ofInt y ↔ x < y := by rw [Int32.lt_iff_toInt_lt, of32 hx, of32 hy]
theorem le32 {x y : Int} (hx : r32 x) (hy : r32 y) : Int32.ofInt x ≤ Int32.ofInt y ↔ x ≤ y := by rw [Int32.le_iff_toInt_le, of32 hx, of32 hy]
theorem eq32 {x y : Int} (hx : r32 x) (hy : r32 y) : Int32.ofInt x = Int32.ofInt y ↔ x = y := by rw [← Int32.toInt_inj, of32 hx, of32 hy]
theorem lt64 {x y : Int} (hx : r64 x) (hy : r64 y) : Int64.ofInt x < Int64.ofInt y ↔ x < y := by rw [Int64.lt_iff_toInt_lt, of64 hx, of64 hy]
theorem eq64 {x y : Int} (hx : r64 x) (hy : r64 y) : Int64.ofInt x = Int64.ofInt y ↔ x = y := by rw [← Int64.toInt_inj, of64 hx, of64 hy]
theorem ofi_cmp {x y : Int} (hx : r64 x) (hy : r64 y) : Int32.ofInt (lcmp x y) = lg_cmp (Int64.ofInt x) (Int64.ofInt y) := by
  unfold lcmp lg_cmp
  simp only [lt64 hx hy, eq64 hx hy, gt_iff_lt, lt64 hy hx]
  repeat' split
  all_goals first | rfl | omega
theorem lcmp_r (x y : Int) : r32 (lcmp x y) := by
  unfold lcmp r32
  repeat' split
  all_goals omega
theorem ofl_i2l {x : Int} (hx : r32 x) : (Int32.ofInt x).toInt64 = Int64.ofInt x := by
  apply Int64.toInt_inj.mp
  rw [Int32.toInt_toInt64, of32 hx, of64 (by unfold r32 at hx; unfold r64; omega)]
theorem ofi_l2i {x : Int} : (Int64.ofInt x).toInt32 = Int32.ofInt (i32 x) := by
  unfold i32
  rw [w32_w]
  apply Int32.toInt_inj.mp
  rw [Int64.toInt_toInt32, w64_toInt, w32_toInt]
  unfold w64 w32
  exact Int.bmod_bmod_of_dvd (by decide)
theorem ofi_i2b {x : Int} (hx : r32 x) : (Int32.ofInt x).toInt8.toInt32 = Int32.ofInt (w8 x) := by
  apply Int32.toInt_inj.mp
  rw [Int8.toInt_toInt32, Int32.toInt_toInt8, of32 hx]
  rw [of32]
  · rfl
  · unfold w8 r32 Int.bmod
    constructor <;> (dsimp only; split <;> omega)
theorem w8_r (x : Int) : -128 ≤ w8 x ∧ w8 x ≤ 127 := by
  unfold w8 Int.bmod
  constructor <;> (dsimp only; split <;> omega)
theorem ofi_i2c {x : Int} (hx : r32 x) : ((Int32.ofInt x).toUInt32 % 65536).toInt32 = Int32.ofInt (w16u x) := by
  have e : ((Int32.ofInt x).toUInt32).toNat = (x % 4294967296).toNat := by
    show (Int32.ofInt x).toBitVec.toNat = _
    rw [Int32.toBitVec_ofInt, BitVec.toNat_ofInt]
    rfl
  have h2 : r32 (w16u x) := by unfold w16u r32; omega
  have e1 : ((Int32.ofInt x).toUInt32 % 65536).toNat = (w16u x).toNat := by
    rw [UInt32.toNat_mod, e]
    unfold w16u
    show (x % 4294967296).toNat % 65536 = _
    omega
  apply Int32.toInt_inj.mp
  rw [of32 h2]
  have e2 : ((Int32.ofInt x).toUInt32 % 65536).toInt32.toInt = (((Int32.ofInt x).toUInt32 % 65536).toNat : Int).bmod 4294967296 := by
    show ((Int32.ofInt x).toUInt32 % 65536).toBitVec.toInt = _
    rw [BitVec.toInt_eq_toNat_bmod]
    rfl
  rw [e2, e1]
  unfold w16u Int.bmod
  dsimp only
  split <;> omega
