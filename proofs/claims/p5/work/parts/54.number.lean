/-! number -/
noncomputable def nmC (h : Nat → Nat → Int) (f : Nat → Bool) (day lt : Int) (i : Nat) : Nat → Option Int
  | 0 => none
  | j + 1 => if h 79 (16 * i + j) = lt ∧ inF h day i = true ∧ f (16 * i + j) = false then some (h 80 (16 * i + j)) else nmC h f day lt i j
noncomputable def nmL (h : Nat → Nat → Int) (f : Nat → Bool) (day lt dv : Int) : Nat → Int
  | 0 => dv
  | i + 1 => (nmC h f day lt i (h 78 i).toNat).getD (nmL h f day lt dv i)
section
variable {L : Nat} {xs : Nat → Int} {d : Nat} {S T U : AH}
theorem m_nmC {f : Nat → Bool} (hA : A96 T U f) {lt day : Int} {i : Nat} (hi : i < 20) : ∀ j : Nat, j ≤ 16 → LQ (WK L xs) (ev (WK L xs) (d + 3)) 236 26 [some (vr 72), some (vi lt), some (vi day), some (vi (i : Int)), some (vi ((j : Int) - 1))] [] U = (match nmC T.2 f day lt i j with
    | some v => some (v, U)
    | none => LQ (WK L xs) (ev (WK L xs) (d + 3)) 236 12 [some (vr 72), some (vi lt), some (vi day), some (vi ((i : Int) - 1)), none] [] U) := by
  intro j
  induction j with
  | zero =>
    intro _
    rw [q_236_26, if_pos (by first | decide | omega), w32e (by first | decide | omega) (by first | decide | omega), show (i : Int) + -1 = (i : Int) - 1 by omega]
    rfl
  | succ j ih =>
    intro hj
    rw [show ((j + 1 : Nat) : Int) - 1 = (j : Int) by omega, q_236_26, if_neg (by first | decide | omega), w32e (x := 16 * (i : Int)) (by first | decide | omega) (by first | decide | omega), w32e (x := 16 * (i : Int) + (j : Int)) (by first | decide | omega) (by first | decide | omega), if_pos (by first | decide | omega), show (16 * (i : Int) + (j : Int)).toNat = 16 * i + j by omega, m_isCounted hA hi (by first | decide | omega), bR, w32e (x := (j : Int) + -1) (by first | decide | omega) (by first | decide | omega), show (j : Int) + -1 = (j : Int) - 1 by omega, ih (by first | decide | omega), hA.2.1 79 (by decide), hA.2.1 80 (by decide), if_pos (show 0 ≤ 16 * (i : Int) + (j : Int) ∧ 16 * (i : Int) + (j : Int) < 1600 by omega)]
    simp only [bi_0]
    by_cases h1 : T.2 79 (16 * i + j) = lt
    · rw [if_pos h1]
      by_cases h2 : inF T.2 day i = true ∧ f (16 * i + j) = false
      · have e : nmC T.2 f day lt i (j + 1) = some (T.2 80 (16 * i + j)) := by
          simp only [nmC]
          rw [if_pos ⟨h1, h2⟩]
        rw [if_neg (fun z => z h2), e]
      · have e : nmC T.2 f day lt i (j + 1) = nmC T.2 f day lt i j := by
          simp only [nmC]
          rw [if_neg (fun z => h2 z.2)]
        rw [if_pos h2, e]
    · have e : nmC T.2 f day lt i (j + 1) = nmC T.2 f day lt i j := by
        simp only [nmC]
        rw [if_neg (fun z => h1 z.1)]
      rw [if_neg h1, e]
end
