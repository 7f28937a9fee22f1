/-! a bit taken out -/
theorem nk_ok : ((List.range 16).all fun k => decide ((BitVec.ofInt 32 (ixor (ishl 1 (k : Int)) (-1))).toNat = 4294967295 - 2 ^ k) && ((List.range 16).all fun j => (4294967295 - 2 ^ k).testBit j == decide (j ≠ k))) = true := by decide +kernel
theorem clr {x k : Nat} (hx : x < 65536) (hk : k < 16) : ∃ z : Nat, iand (x : Int) (ixor (ishl 1 (k : Int)) (-1)) = (z : Int) ∧ z < 65536 ∧ ∀ j, j < 16 → z.testBit j = (x.testBit j && decide (j ≠ k)) := by
  have h := List.all_eq_true.mp nk_ok k (List.mem_range.mpr hk)
  rw [Bool.and_eq_true] at h
  have h1 : (BitVec.ofInt 32 (ixor (ishl 1 (k : Int)) (-1))).toNat = 4294967295 - 2 ^ k := of_decide_eq_true h.1
  have h2 : ∀ j, j < 16 → (4294967295 - 2 ^ k).testBit j = decide (j ≠ k) := fun j hj => eq_of_beq (List.all_eq_true.mp h.2 j (List.mem_range.mpr hj))
  have hl : x &&& (4294967295 - 2 ^ k) ≤ x := Nat.and_le_left
  refine ⟨x &&& (4294967295 - 2 ^ k), ?_, by omega, fun j hj => ?_⟩
  · have e : (Int32.ofInt (x : Int) &&& Int32.ofInt (ixor (ishl 1 (k : Int)) (-1))).toBitVec = BitVec.ofInt 32 x &&& BitVec.ofInt 32 (ixor (ishl 1 (k : Int)) (-1)) := rfl
    have h3 : (BitVec.ofInt 32 (x : Int) &&& BitVec.ofInt 32 (ixor (ishl 1 (k : Int)) (-1))).toNat = x &&& (4294967295 - 2 ^ k) := by rw [BitVec.toNat_and, bv32 x (by first | decide | omega), h1]
    show (Int32.ofInt (x : Int) &&& Int32.ofInt (ixor (ishl 1 (k : Int)) (-1))).toBitVec.toInt = _
    rw [e, ti32 (by rw [h3]; omega), h3]
  · rw [Nat.testBit_and, h2 j hj]
theorem full_ok : ((List.range 17).all fun k => decide (w32 (ishl 1 (k : Int) - 1) = ((2 ^ k - 1 : Nat) : Int)) && ((List.range 16).all fun j => (2 ^ k - 1).testBit j == decide (j < k))) = true := by decide +kernel
theorem full {k : Nat} (hk : k ≤ 16) : w32 (ishl 1 (k : Int) - 1) = ((2 ^ k - 1 : Nat) : Int) ∧ 2 ^ k - 1 < 65536 ∧ ∀ j, j < 16 → (2 ^ k - 1).testBit j = decide (j < k) := by
  have h := List.all_eq_true.mp full_ok k (List.mem_range.mpr (by first | decide | omega))
  rw [Bool.and_eq_true] at h
  have h3 : 2 ^ k ≤ 2 ^ 16 := Nat.pow_le_pow_right (by decide) hk
  have h4 : 1 ≤ 2 ^ k := Nat.one_le_two_pow
  exact ⟨of_decide_eq_true h.1, by omega, fun j hj => eq_of_beq (List.all_eq_true.mp h.2 j (List.mem_range.mpr hj))⟩
/-- what counts: the law i is in force on the day, its clause j is not struck -/
noncomputable def inF (h : Nat → Nat → Int) (day : Int) (i : Nat) : Bool := decide (h 94 i ≤ day ∧ day ≤ h 95 i)
/-- the strikes of one law's clauses from j on, m of them; f is what is struck -/
noncomputable def skC (h : Nat → Nat → Int) (i : Nat) : Nat → Nat → (Nat → Bool) → (Nat → Bool)
  | 0, _, f => f
  | m + 1, j, f => skC h i m (j + 1) (if f (16 * i + j) = false ∧ h 79 (16 * i + j) = 120 ∧ h 80 (16 * i + j) < i then (fun k => if k = (16 * h 80 (16 * i + j) + h 81 (16 * i + j)).toNat then true else f k) else f)
/-- the strikes of the laws below i -/
noncomputable def skL (h : Nat → Nat → Int) (day : Int) : Nat → (Nat → Bool) → (Nat → Bool)
  | 0, f => f
  | i + 1, f => skL h day i (if inF h day i = true then skC h i (h 78 i).toNat 0 f else f)
/-- what is struck on the day -/
noncomputable def skd (h : Nat → Nat → Int) (day : Int) : Nat → Bool := skL h day (h 72 36).toNat (fun _ => false)
section
variable {L : Nat} {xs : Nat → Int} {d : Nat} {S S' : AH} {o : Nat}
/-- the array of strikes is f -/
noncomputable def A96 (S T : AH) (f : Nat → Bool) : Prop := T.1 = S.1 ∧ (∀ a, a ≠ 96 → T.2 a = S.2 a) ∧ ∀ k, k < 320 → T.2 96 k = if f k then 1 else 0
theorem m_inF {i : Nat} (hi : i < 20) (day : Int) : ev (WK L xs) (d + 2) 233 [vr 72, vi (i : Int), vi day] S = some (bi (inF S.2 day i = true), S) := by
  rw [q_233, if_pos (by first | decide | omega), if_pos (by first | decide | omega), m_lies, bR, if_pos (by rw [bi_01]; trivial), Int.toNat_natCast]
  congr 2
  apply bi_iff
  unfold inF
  simp
theorem m_skC (gl : GL S) {i : Nat} (hi : (i : Int) < S.2 72 36) {day : Int} (hF : inF S.2 day i = true) : ∀ (m j : Nat) (T : AH) (f : Nat → Bool), (j : Int) + m = S.2 78 i → A96 S T f → ∃ T', LQ (WK L xs) (ev (WK L xs) (d + 2)) 232 38 [some (vr 72), some (vi day), some (vi (i : Int)), some (vi (16 * (i : Int) + (j : Int)))] [] T = LQ (WK L xs) (ev (WK L xs) (d + 2)) 232 29 [some (vr 72), some (vi day), some (vi ((i : Int) + -1)), none] [] T' ∧ A96 S T' (skC S.2 i m j f) := by
  have hl := gl.2.2.1
  have tx := (gl.2.2.2 i hi).2.2
  have hcm : S.2 78 i ≤ 16 := by
    obtain ⟨x, ⟨h1, h2, -⟩, -⟩ := tx
    rw [h1]
    omega
  have w1 : w32 (16 * (i : Int)) = 16 * (i : Int) := w32e (by first | decide | omega) (by first | decide | omega)
  have w2 : w32 ((i : Int) + -1) = (i : Int) + -1 := w32e (by first | decide | omega) (by first | decide | omega)
  have hq2 : (0 : Int) ≤ (i : Int) ∧ (i : Int) < 100 := by omega
  intro m
  induction m with
  | zero =>
    intro j T f hj hA
    rw [q_232_38, if_pos hq2, w1, hA.2.1 78 (by decide), Int.toNat_natCast, w32e (x := 16 * (i : Int) + S.2 78 i) (by first | decide | omega) (by first | decide | omega), if_neg (by first | decide | omega), w2]
    exact ⟨T, rfl, hA⟩
  | succ m ih =>
    intro j T f hj hA
    obtain ⟨c1, c2, c3, -⟩ := tx.cl (L := L) (xs := xs) (j := j) (by first | decide | omega)
    have e1 : 16 * (i : Int) + (j : Int) + 1 = 16 * (i : Int) + ((j + 1 : Nat) : Int) := by omega
    have e2 : (16 * (i : Int) + (j : Int)).toNat = 16 * i + j := by omega
    have hx : 0 ≤ 16 * (i : Int) + (j : Int) ∧ 16 * (i : Int) + (j : Int) < 320 := by omega
    have hx2 : 0 ≤ 16 * (i : Int) + (j : Int) ∧ 16 * (i : Int) + (j : Int) < 1600 := by omega
    have hiF : ev (WK L xs) (d + 2) 233 [vr 72, vi (i : Int), vi day] T = some (bi (inF S.2 day i = true), T) := by
      have e3 : inF T.2 day i = inF S.2 day i := by
        unfold inF
        rw [hA.2.1 94 (by decide), hA.2.1 95 (by decide)]
      rw [m_inF (by first | decide | omega), e3]
    have hno := ih (j + 1) T f (by first | decide | omega) hA
    rw [q_232_38, if_pos hq2, w1, hA.2.1 78 (by decide), Int.toNat_natCast, w32e (x := 16 * (i : Int) + S.2 78 i) (by first | decide | omega) (by first | decide | omega), if_pos (by first | decide | omega), hiF, bR, e2, w32e (x := 16 * (i : Int) + (j : Int) + 1) (by first | decide | omega) (by first | decide | omega), e1, hA.2.1 79 (by decide), hA.2.1 80 (by decide), hA.2.1 81 (by decide), hA.2.2 (16 * i + j) (by first | decide | omega)]
    simp only [bi_0]
    rw [if_neg (fun z => z hF), if_pos hx, if_pos hx2, if_pos hx2, if_pos hx2, if_pos hx2]
    simp only [skC]
    cases hf : f (16 * i + j) with
    | true =>
      rw [if_neg (by decide), if_neg (by simp)]
      exact hno
    | false =>
      rw [if_pos (by rfl)]
      by_cases z1 : S.2 79 (16 * i + j) = 120
      · rw [if_pos z1]
        by_cases z2 : S.2 80 (16 * i + j) < i
        · obtain ⟨d1, d2, d3⟩ := c3 z1
          rw [if_pos z2, if_pos (show false = false ∧ S.2 79 (16 * i + j) = 120 ∧ S.2 80 (16 * i + j) < i from ⟨rfl, z1, z2⟩), w32e (x := 16 * S.2 80 (16 * i + j)) (by first | decide | omega) (by first | decide | omega), w32e (x := 16 * S.2 80 (16 * i + j) + S.2 81 (16 * i + j)) (by first | decide | omega) (by first | decide | omega), if_pos (by first | decide | omega)]
          refine ih (j + 1) _ _ (by first | decide | omega) ⟨hA.1, fun a ha => by rw [wr_c ha]; exact hA.2.1 a ha, fun k hk => ?_⟩
          rw [wr_f, hA.2.2 k hk]
          dsimp only
          by_cases z3 : k = (16 * S.2 80 (16 * i + j) + S.2 81 (16 * i + j)).toNat
          · simp only [if_pos z3]
            rfl
          · simp only [if_neg z3]
        · rw [if_neg z2, if_neg (fun z => z2 z.2.2)]
          exact hno
      · rw [if_neg z1, if_neg (fun z => z1 z.2.1)]
        exact hno
end
