/-! number: the class's -/
section
variable {L : Nat} {xs : Nat → Int} {d : Nat} {S T U : AH}
theorem x_nmC (gl : GL S) {f : Nat → Bool} {day lt k : Int} (hB : B35 S T day f (S.2 72 36).toNat) (hlt : lt ≠ 120) {i : Nat} (hi : (i : Int) < S.2 72 36) : ∀ j : Nat, (j : Int) ≤ S.2 78 i → LQ (WK L xs) (ev (WK L xs) (d + 2)) 108 74 [some (vr 31), some (vi k), none, some (vi lt), some (vi (i : Int)), some (vr (S.2 32 i).toNat), some (vi ((j : Int) - 1))] [] T = (match nmC S.2 f day lt i j with
    | some v => some (v, T)
    | none => LQ (WK L xs) (ev (WK L xs) (d + 2)) 108 43 [some (vr 31), some (vi k), none, some (vi lt), some (vi ((i : Int) - 1)), none, none] [] T) := by
  have hl := gl.2
  have tx := (gl.2.2.2 i hi).2.2
  have hcm := cm_bd tx
  obtain ⟨x1, -⟩ := x_clauses (L := L) (xs := xs) (d := d) (hB.tx tx)
  intro j
  induction j with
  | zero =>
    intro _
    rw [q_108_74, if_pos (by first | decide | omega), w32e (by first | decide | omega) (by first | decide | omega), show (i : Int) + -1 = (i : Int) - 1 by omega]
    rfl
  | succ j ih =>
    intro hj
    obtain ⟨c1, c2, c3, c4, c5⟩ := (hB.tx tx).cl (L := L) (xs := xs) (j := j) (by rw [hB.2.1 78 (by decide)]; omega)
    obtain ⟨z, z1, z2, z3⟩ := hB.2.2 i (by first | decide | omega)
    rw [show ((j + 1 : Nat) : Int) - 1 = (j : Int) by omega, q_108_74, if_neg (by first | decide | omega), if_pos (show 0 ≤ (i : Int) ∧ (i : Int) < 20 by omega), Int.toNat_natCast, z1, bit16 z2 c1, w32e (x := (j : Int) + -1) (by first | decide | omega) (by first | decide | omega), show (j : Int) + -1 = (j : Int) - 1 by omega, ih (by first | decide | omega), g19 rfl x1, c4, bR, g19 rfl x1, c5, bR, hB.2.1 79 (by decide), hB.2.1 80 (by decide), hB.2.1 81 (by decide), z3 j c1]
    have hb : btsF S.2 day f i j = true ↔ (inF S.2 day i = true ∧ f (16 * i + j) = false) := by
      unfold btsF
      rw [decide_eq_true (show (j : Int) < S.2 78 i by omega)]
      simp
    by_cases h2 : btsF S.2 day f i j = true
    · rw [h2, if_neg (by decide)]
      by_cases h1 : S.2 79 (16 * i + j) = lt
      · have e : nmC S.2 f day lt i (j + 1) = some (S.2 80 (16 * i + j)) := by
          simp only [nmC]
          rw [if_pos ⟨h1, hb.mp h2⟩]
        rw [if_pos h1, if_neg (by rw [h1]; exact hlt), e]
      · have e : nmC S.2 f day lt i (j + 1) = nmC S.2 f day lt i j := by
          simp only [nmC]
          rw [if_neg (fun z => h1 z.1)]
        rw [if_neg h1, e]
        exact ih (by first | decide | omega)
    · have e : nmC S.2 f day lt i (j + 1) = nmC S.2 f day lt i j := by
        simp only [nmC]
        rw [if_neg (fun z => h2 (hb.mpr z.2))]
      rw [if_pos (by rw [if_neg h2]), e]
end
