/-! how many bits -/
noncomputable def pc8 (x : Nat) : Nat := ((x % 2 + x / 2 % 2) + (x / 4 % 2 + x / 8 % 2)) + ((x / 16 % 2 + x / 32 % 2) + (x / 64 % 2 + x / 128 % 2))
noncomputable def pcn (x : Nat) : Nat := pc8 (x % 256) + pc8 (x / 256)
noncomputable def sb1 (x : Nat) : Nat := x - ((x >>> 1) &&& 1431655765)
noncomputable def sb2 (x : Nat) : Nat := (x &&& 858993459) + ((x >>> 2) &&& 858993459)
noncomputable def sb3 (x : Nat) : Nat := (x + (x >>> 4)) &&& 252645135
noncomputable def sb4 (x : Nat) : Nat := x + (x >>> 8)
noncomputable def sb5 (x : Nat) : Nat := (x + (x >>> 16)) &&& 63
/-- what the three first steps do to a byte -/
noncomputable def b1 (a : Nat) : Nat := a - ((a / 2) &&& 85)
noncomputable def b2 (a : Nat) : Nat := (a &&& 51) + ((a / 4) &&& 51)
noncomputable def b3 (a : Nat) : Nat := (a + a / 16) % 16
theorem byte_ok : ((List.range 256).all fun a => Nat.ble ((a / 2) &&& 85) a && Nat.ble (b1 a) 255 && Nat.ble (b2 (b1 a)) 68 && Nat.ble (b2 (b1 a) % 16) 4 && Nat.beq (b3 (b2 (b1 a))) (pc8 a) && Nat.beq ((a / 2 + 128) &&& 85) ((a / 2) &&& 85) && Nat.ble (pc8 a) 8 && Nat.ble ((a / 2) &&& 85) 127 && Nat.beq ((a / 4 + 64) &&& 51) ((a / 4) &&& 51) && Nat.beq ((a / 4 + 128) &&& 51) ((a / 4) &&& 51) && Nat.beq ((a / 4 + 192) &&& 51) ((a / 4) &&& 51) && (Nat.beq a 0 || (Nat.beq (pc8 (a &&& (a - 1)) + 1) (pc8 a) && Nat.blt (a &&& (a - 1)) a))) = true := by decide +kernel
theorem byte_at {a : Nat} (h : a < 256) : ((a / 2) &&& 85 ≤ a ∧ b1 a ≤ 255 ∧ b2 (b1 a) ≤ 68 ∧ b2 (b1 a) % 16 ≤ 4 ∧ b3 (b2 (b1 a)) = pc8 a ∧ (a / 2 + 128) &&& 85 = (a / 2) &&& 85 ∧ pc8 a ≤ 8 ∧ (a / 2) &&& 85 ≤ 127) ∧ ((a / 4 + 64) &&& 51 = (a / 4) &&& 51 ∧ (a / 4 + 128) &&& 51 = (a / 4) &&& 51 ∧ (a / 4 + 192) &&& 51 = (a / 4) &&& 51) ∧ (a ≠ 0 → pc8 (a &&& (a - 1)) + 1 = pc8 a ∧ a &&& (a - 1) < a) := by
  have q := List.all_eq_true.mp byte_ok a (List.mem_range.mpr h)
  simp only [Bool.and_eq_true, Bool.or_eq_true] at q
  obtain ⟨⟨⟨⟨⟨⟨⟨⟨⟨⟨⟨q1, q2⟩, q3⟩, q4⟩, q5⟩, q6⟩, q7⟩, q8⟩, q9⟩, q10⟩, q11⟩, q12⟩ := q
  refine ⟨⟨Nat.le_of_ble_eq_true q1, Nat.le_of_ble_eq_true q2, Nat.le_of_ble_eq_true q3, Nat.le_of_ble_eq_true q4, Nat.eq_of_beq_eq_true q5, Nat.eq_of_beq_eq_true q6, Nat.le_of_ble_eq_true q7, Nat.le_of_ble_eq_true q8⟩, ⟨Nat.eq_of_beq_eq_true q9, Nat.eq_of_beq_eq_true q10, Nat.eq_of_beq_eq_true q11⟩, fun h0 => ?_⟩
  rcases q12 with z | z
  · exact absurd (Nat.eq_of_beq_eq_true z) h0
  · exact ⟨Nat.eq_of_beq_eq_true z.1, Nat.blt_eq.mp z.2⟩
/-- masks work byte by byte -/
theorem and_by (x m : Nat) : x &&& m = ((x % 256) &&& (m % 256)) + 256 * ((x / 256) &&& (m / 256)) := by
  have h1 : (x &&& m) % 2 ^ 8 = (x % 2 ^ 8) &&& (m % 2 ^ 8) := Nat.and_mod_two_pow
  have h2 : (x &&& m) / 2 ^ 8 = (x / 2 ^ 8) &&& (m / 2 ^ 8) := Nat.and_div_two_pow
  have e : (2 : Nat) ^ 8 = 256 := rfl
  rw [e] at h1 h2
  omega
theorem and_lo {x m : Nat} (h : x < 256) : x &&& m = x &&& (m % 256) := by
  rw [and_by x m, Nat.mod_eq_of_lt h, Nat.div_eq_of_lt h]
  simp
theorem pst1 {a b : Nat} (ha : a < 256) (hb : b < 256) : sb1 (a + 256 * b) = b1 a + 256 * b1 b ∧ ((a + 256 * b) >>> 1) &&& 1431655765 ≤ a + 256 * b := by
  obtain ⟨⟨p1, p2, -, -, -, p6, -, -⟩, -⟩ := byte_at ha
  obtain ⟨⟨r1, r2, -⟩, -⟩ := byte_at hb
  have e : ((a + 256 * b) >>> 1) &&& 1431655765 = ((a / 2) &&& 85) + 256 * ((b / 2) &&& 85) := by
    rw [Nat.shiftRight_eq_div_pow, Nat.pow_one, and_by]
    have h1 : (a + 256 * b) / 2 / 256 = b / 2 := by omega
    have h3 : (1431655765 : Nat) % 256 = 85 := rfl
    have h4 : (1431655765 : Nat) / 256 = 5592405 := rfl
    rw [h1, h3, h4, and_lo (x := b / 2) (m := 5592405) (by first | decide | omega)]
    have h5 : (5592405 : Nat) % 256 = 85 := rfl
    rw [h5]
    congr 1
    rcases (show b % 2 = 0 ∨ b % 2 = 1 by omega) with z | z
    · rw [show (a + 256 * b) / 2 % 256 = a / 2 by omega]
    · rw [show (a + 256 * b) / 2 % 256 = a / 2 + 128 by omega, p6]
  unfold sb1
  rw [e]
  unfold b1
  omega
theorem pst2 {a b : Nat} (ha : a < 256) (hb : b < 256) : sb2 (a + 256 * b) = b2 a + 256 * b2 b := by
  obtain ⟨-, ⟨p1, p2, p3⟩, -⟩ := byte_at ha
  have h3 : (858993459 : Nat) % 256 = 51 := rfl
  have h4 : (858993459 : Nat) / 256 = 3355443 := rfl
  have h5 : (3355443 : Nat) % 256 = 51 := rfl
  have e1 : (a + 256 * b) &&& 858993459 = (a &&& 51) + 256 * (b &&& 51) := by
    rw [and_by, show (a + 256 * b) % 256 = a by omega, show (a + 256 * b) / 256 = b by omega, h3, h4, and_lo (x := b) (m := 3355443) hb, h5]
  have e2 : ((a + 256 * b) >>> 2) &&& 858993459 = ((a / 4) &&& 51) + 256 * ((b / 4) &&& 51) := by
    rw [Nat.shiftRight_eq_div_pow, show (2 : Nat) ^ 2 = 4 from rfl, and_by, show (a + 256 * b) / 4 / 256 = b / 4 by omega, h3, h4, and_lo (x := b / 4) (m := 3355443) (by first | decide | omega), h5]
    congr 1
    rcases (show b % 4 = 0 ∨ b % 4 = 1 ∨ b % 4 = 2 ∨ b % 4 = 3 by omega) with z | z | z | z
    · rw [show (a + 256 * b) / 4 % 256 = a / 4 by omega]
    · rw [show (a + 256 * b) / 4 % 256 = a / 4 + 64 by omega, p1]
    · rw [show (a + 256 * b) / 4 % 256 = a / 4 + 128 by omega, p2]
    · rw [show (a + 256 * b) / 4 % 256 = a / 4 + 192 by omega, p3]
  unfold sb2
  rw [e1, e2]
  unfold b2
  omega
theorem pst3 {a b : Nat} (ha : a ≤ 68) (hb : b ≤ 68) (hb4 : b % 16 ≤ 4) : sb3 (a + 256 * b) = b3 a + 256 * b3 b := by
  have h3 : (252645135 : Nat) % 256 = 2 ^ 4 - 1 := rfl
  have h4 : (252645135 : Nat) / 256 = 986895 := rfl
  have h5 : (986895 : Nat) % 256 = 2 ^ 4 - 1 := rfl
  unfold sb3
  rw [Nat.shiftRight_eq_div_pow, show (2 : Nat) ^ 4 = 16 from rfl, and_by]
  have e1 : (a + 256 * b + (a + 256 * b) / 16) % 256 = a + a / 16 + 16 * (b % 16) := by omega
  have e2 : (a + 256 * b + (a + 256 * b) / 16) / 256 = b + b / 16 := by omega
  rw [e1, e2, h3, h4, and_lo (x := b + b / 16) (m := 986895) (by first | decide | omega), h5, Nat.and_two_pow_sub_one_eq_mod, Nat.and_two_pow_sub_one_eq_mod]
  unfold b3
  omega
theorem pop_at {x : Nat} (h : x < 65536) : sb5 (sb4 (sb3 (sb2 (sb1 x)))) = pcn x ∧ (x >>> 1) &&& 1431655765 ≤ x ∧ sb2 (sb1 x) ≤ 65535 ∧ sb1 x ≤ 65535 ∧ sb3 (sb2 (sb1 x)) ≤ 65535 ∧ sb4 (sb3 (sb2 (sb1 x))) ≤ 65535 := by
  obtain ⟨⟨-, p2, p3, p4, p5, -, p7, -⟩, -⟩ := byte_at (a := x % 256) (by first | decide | omega)
  obtain ⟨⟨-, r2, r3, r4, r5, -, r7, -⟩, -⟩ := byte_at (a := x / 256) (by first | decide | omega)
  have e : x = x % 256 + 256 * (x / 256) := by omega
  obtain ⟨s1, s1'⟩ := pst1 (a := x % 256) (b := x / 256) (by first | decide | omega) (by first | decide | omega)
  rw [← e] at s1 s1'
  have s2 := pst2 (a := b1 (x % 256)) (b := b1 (x / 256)) (by first | decide | omega) (by first | decide | omega)
  have s3 := pst3 (a := b2 (b1 (x % 256))) (b := b2 (b1 (x / 256))) p3 r3 r4
  rw [s1, s2, s3, p5, r5]
  refine ⟨?_, s1', by omega, by omega, by omega, ?_⟩
  · unfold sb5 sb4
    rw [Nat.shiftRight_eq_div_pow, Nat.shiftRight_eq_div_pow, show (63 : Nat) = 2 ^ 6 - 1 from rfl, Nat.and_two_pow_sub_one_eq_mod]
    have f1 : ∀ A B : Nat, A ≤ 8 → B ≤ 8 → (A + 256 * B + (A + 256 * B) / 256 + (A + 256 * B + (A + 256 * B) / 256) / 65536) % 64 = A + B := by
      intro A B h1 h2
      have e8 : (A + 256 * B) / 256 = B := by omega
      have e9 : (A + 256 * B + B) / 65536 = 0 := Nat.div_eq_of_lt (by first | decide | omega)
      have e10 : A + 256 * B + B + 0 = (A + B) + 64 * (4 * B) := by omega
      rw [e8, e9, e10, Nat.add_mul_mod_self_left]
      exact Nat.mod_eq_of_lt (by first | decide | omega)
    exact f1 _ _ p7 r7
  · unfold sb4
    rw [Nat.shiftRight_eq_div_pow]
    have : (2 : Nat) ^ 8 = 256 := rfl
    omega
theorem low_at {x : Nat} (h : x < 65536) (h0 : x ≠ 0) : pcn (x &&& (x - 1)) + 1 = pcn x ∧ x &&& (x - 1) < x := by
  have hb := and_by x (x - 1)
  by_cases ha : x % 256 = 0
  · have hq := (byte_at (a := x / 256) (by first | decide | omega)).2.2 (by first | decide | omega)
    have e1 : (x - 1) / 256 = x / 256 - 1 := by omega
    rw [ha, e1] at hb
    have e0 : (0 : Nat) &&& ((x - 1) % 256) = 0 := by simp
    rw [e0] at hb
    have hlt := hq.2
    unfold pcn
    have e2 : (x &&& (x - 1)) % 256 = 0 := by omega
    have e3 : (x &&& (x - 1)) / 256 = (x / 256) &&& (x / 256 - 1) := by omega
    rw [e2, e3, ha]
    omega
  · have hq := (byte_at (a := x % 256) (by first | decide | omega)).2.2 ha
    have e1 : (x - 1) / 256 = x / 256 := by omega
    have e4 : (x - 1) % 256 = x % 256 - 1 := by omega
    rw [e1, e4, Nat.and_self] at hb
    have hlt := hq.2
    unfold pcn
    have e2 : (x &&& (x - 1)) % 256 = (x % 256) &&& (x % 256 - 1) := by omega
    have e3 : (x &&& (x - 1)) / 256 = x / 256 := by omega
    rw [e2, e3]
    omega
theorem iushr_n (x y : Nat) (hx : x < 2147483648) (hy : y < 32) : iushr x y = ((x >>> y : Nat) : Int) := by
  have h0 : (((Int32.ofInt (x : Int)).toUInt32 >>> ((Int32.ofInt (y : Int)).toUInt32 &&& Int32.toUInt32 31)).toInt32).toBitVec = (BitVec.ofInt 32 (x : Int)) >>> (((Int32.ofInt (y : Int)).toUInt32 &&& Int32.toUInt32 31) % 32).toBitVec := rfl
  have hm : ((((Int32.ofInt (y : Int)).toUInt32 &&& Int32.toUInt32 31) % 32).toBitVec).toNat = y := by
    show ((BitVec.ofInt 32 (y : Int) &&& 31#32) % 32#32).toNat = y
    rw [BitVec.toNat_umod, BitVec.toNat_and, bv32 y (by first | decide | omega)]
    show (y &&& 31) % 32 = y
    rw [show (31 : Nat) = 2 ^ 5 - 1 from rfl, Nat.and_two_pow_sub_one_eq_mod]
    omega
  have h2 : ((BitVec.ofInt 32 (x : Int)) >>> (((Int32.ofInt (y : Int)).toUInt32 &&& Int32.toUInt32 31) % 32).toBitVec).toNat = x >>> y := by
    rw [BitVec.ushiftRight_eq', BitVec.toNat_ushiftRight, hm, bv32 x hx]
  show (((Int32.ofInt (x : Int)).toUInt32 >>> ((Int32.ofInt (y : Int)).toUInt32 &&& Int32.toUInt32 31)).toInt32).toBitVec.toInt = _
  rw [h0, ti32 (by rw [h2]; exact Nat.lt_of_le_of_lt (Nat.shiftRight_le _ _) hx), h2]
section
variable {L : Nat} {xs : Nat → Int} {d : Nat} {S : AH}
theorem j_bitCount (x : Nat) (h : x < 65536) : ev (WK L xs) (d + 1) 320 [vi x] S = some ((pcn x : Int), S) := by
  obtain ⟨p0, p1, p2, p3, p4, p5⟩ := pop_at h
  have a1 : w32 ((x : Int) - iand (iushr x 1) 1431655765) = ((sb1 x : Nat) : Int) := by
    have e1 := iushr_n x 1 (by first | decide | omega) (by decide)
    have e2 := iand_n (x >>> 1) 1431655765 (Nat.lt_of_le_of_lt (Nat.shiftRight_le _ _) (by first | decide | omega)) (by decide)
    have e1' : iushr (x : Int) 1 = ((x >>> 1 : Nat) : Int) := e1
    have e2' : iand ((x >>> 1 : Nat) : Int) 1431655765 = (((x >>> 1) &&& 1431655765 : Nat) : Int) := e2
    rw [e1', e2', w32e (by first | decide | omega) (by first | decide | omega)]
    unfold sb1
    omega
  have a2 : ∀ y : Nat, y ≤ 65535 → sb2 y ≤ 65535 → w32 (iand (y : Int) 858993459 + iand (iushr y 2) 858993459) = ((sb2 y : Nat) : Int) := by
    intro y hy hs
    have e0 : iand (y : Int) 858993459 = ((y &&& 858993459 : Nat) : Int) := iand_n y 858993459 (by first | decide | omega) (by decide)
    have e1 : iushr (y : Int) 2 = ((y >>> 2 : Nat) : Int) := iushr_n y 2 (by first | decide | omega) (by decide)
    have e2 : iand ((y >>> 2 : Nat) : Int) 858993459 = (((y >>> 2) &&& 858993459 : Nat) : Int) := iand_n (y >>> 2) 858993459 (Nat.lt_of_le_of_lt (Nat.shiftRight_le _ _) (by first | decide | omega)) (by decide)
    unfold sb2 at hs ⊢
    rw [e0, e1, e2, w32e (by first | decide | omega) (by first | decide | omega)]
    omega
  have a3 : ∀ y : Nat, y ≤ 65535 → iand (w32 ((y : Int) + iushr y 4)) 252645135 = ((sb3 y : Nat) : Int) := by
    intro y hy
    have e1 : iushr (y : Int) 4 = ((y >>> 4 : Nat) : Int) := iushr_n y 4 (by first | decide | omega) (by decide)
    have hle := Nat.shiftRight_le y 4
    rw [e1, w32e (by first | decide | omega) (by first | decide | omega)]
    have e2 : iand ((y + (y >>> 4) : Nat) : Int) 252645135 = (((y + (y >>> 4)) &&& 252645135 : Nat) : Int) := iand_n (y + (y >>> 4)) 252645135 (by first | decide | omega) (by decide)
    unfold sb3
    rw [← e2]
    congr 1
  have a4 : ∀ y : Nat, y ≤ 65535 → w32 ((y : Int) + iushr y 8) = ((sb4 y : Nat) : Int) := by
    intro y hy
    have e1 : iushr (y : Int) 8 = ((y >>> 8 : Nat) : Int) := iushr_n y 8 (by first | decide | omega) (by decide)
    have hle := Nat.shiftRight_le y 8
    rw [e1, w32e (by first | decide | omega) (by first | decide | omega)]
    unfold sb4
    omega
  have a5 : ∀ y : Nat, y ≤ 65535 → iand (w32 ((y : Int) + iushr y 16)) 63 = ((sb5 y : Nat) : Int) := by
    intro y hy
    have e1 : iushr (y : Int) 16 = ((y >>> 16 : Nat) : Int) := iushr_n y 16 (by first | decide | omega) (by decide)
    have hle := Nat.shiftRight_le y 16
    rw [e1, w32e (by first | decide | omega) (by first | decide | omega)]
    have e2 : iand ((y + (y >>> 16) : Nat) : Int) 63 = (((y + (y >>> 16)) &&& 63 : Nat) : Int) := iand_n (y + (y >>> 16)) 63 (by first | decide | omega) (by decide)
    unfold sb5
    rw [← e2]
    congr 1
  rw [q_320, a1, a2 (sb1 x) p3 p2, a3 (sb2 (sb1 x)) p2, a4 (sb3 (sb2 (sb1 x))) p4, a5 (sb4 (sb3 (sb2 (sb1 x)))) p5, p0]
theorem pcn_le {x : Nat} (h : x < 65536) : pcn x ≤ 16 := by
  have h1 := (byte_at (a := x % 256) (by first | decide | omega)).1.2.2.2.2.2.2.1
  have h2 := (byte_at (a := x / 256) (by first | decide | omega)).1.2.2.2.2.2.2.1
  unfold pcn
  omega
theorem m_sizeOf (x : Nat) (h : x < 65536) : ev (WK L xs) (d + 1) 290 [vi x] S = some ((pcn x : Int), S) := by
  have key : ∀ (n x k : Nat), x ≤ n → x < 65536 → k + pcn x ≤ 16 → LQ (WK L xs) (ev (WK L xs) d) 290 4 [none, some (vi (k : Int)), some (vi (x : Int))] [] S = some (((k + pcn x : Nat) : Int), S) := by
    intro n
    induction n with
    | zero =>
      intro x k h1 h2 h3
      have : x = 0 := by omega
      subst this
      rw [q_290_4, if_pos (by rfl)]
      rfl
    | succ n ih =>
      intro x k h1 h2 h3
      by_cases h0 : x = 0
      · subst h0
        rw [q_290_4, if_pos (by rfl)]
        rfl
      · obtain ⟨l1, l2⟩ := low_at h2 h0
        have e1 : w32 ((x : Int) - 1) = ((x - 1 : Nat) : Int) := by
          rw [w32e (by first | decide | omega) (by first | decide | omega)]
          omega
        have e3 : (k : Int) + 1 = ((k + 1 : Nat) : Int) := by omega
        rw [q_290_4, if_neg (by first | decide | omega), e1, iand_n x (x - 1) (by first | decide | omega) (by first | decide | omega), w32e (by first | decide | omega) (by first | decide | omega), e3, ih (x &&& (x - 1)) (k + 1) (by first | decide | omega) (by first | decide | omega) (by first | decide | omega)]
        congr 2
        omega
  rw [q_290]
  have := key x x 0 (Nat.le_refl _) h (by have := pcn_le h; omega)
  rw [Nat.zero_add] at this
  exact this
end
