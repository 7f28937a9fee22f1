/-! number: both sides -/
section
variable {L : Nat} {xs : Nat → Int} {d : Nat} {S T U : AH}
theorem m_nmL (gl : GL T) {f : Nat → Bool} (hA : A96 T U f) {lt day : Int} : ∀ i : Nat, (i : Int) ≤ T.2 72 36 → LQ (WK L xs) (ev (WK L xs) (d + 3)) 236 12 [some (vr 72), some (vi lt), some (vi day), some (vi ((i : Int) - 1)), none] [] U = some (nmL T.2 f day lt (if lt = 109 then 10 else if lt = 100 then 30 else 0) i, U) := by
  have hl := gl.2
  intro i
  induction i with
  | zero =>
    intro _
    rw [q_236_12, if_pos (by first | decide | omega)]
    simp only [nmL]
    repeat' split
    all_goals rfl
  | succ i ih =>
    intro hi
    have hcm := cm_bd (gl.2.2.2 i (by first | decide | omega)).2.2
    have hq : (0 : Int) ≤ (i : Int) ∧ (i : Int) < 100 := by omega
    have hc := m_nmC (L := L) (xs := xs) (d := d) hA (lt := lt) (day := day) (i := i) (by first | decide | omega) (T.2 78 i).toNat (by first | decide | omega)
    rw [show ((T.2 78 i).toNat : Int) - 1 = T.2 78 i - 1 by omega, ih (by first | decide | omega)] at hc
    rw [show ((i + 1 : Nat) : Int) - 1 = (i : Int) by omega, q_236_12, if_neg (by first | decide | omega), if_pos hq, Int.toNat_natCast, hA.2.1 78 (by decide), w32e (by first | decide | omega) (by first | decide | omega), hc]
    simp only [nmL]
    cases nmC T.2 f day lt i (T.2 78 i).toNat <;> rfl
theorem m_numberOf (gl : GL S) (lt day : Int) : ∃ U, ev (WK L xs) (d + 4) 236 [vr 72, vi lt, vi day] S = some (nmL S.2 (skd S.2 day) day lt (if lt = 109 then 10 else if lt = 100 then 30 else 0) (S.2 72 36).toNat, U) ∧ A96 S U (skd S.2 day) := by
  have hl := gl.2
  obtain ⟨U, u1, u2⟩ := m_strikes (L := L) (xs := xs) (d := d) gl day
  refine ⟨U, ?_, u2⟩
  rw [q_236, u1, bR, u2.2.1 72 (by decide), w32e (by first | decide | omega) (by first | decide | omega)]
  have := m_nmL (L := L) (xs := xs) (d := d) gl u2 (lt := lt) (day := day) (S.2 72 36).toNat (by first | decide | omega)
  rw [show ((S.2 72 36).toNat : Int) - 1 = S.2 72 36 - 1 by omega] at this
  exact this
end
