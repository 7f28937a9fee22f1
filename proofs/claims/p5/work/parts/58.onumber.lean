/-! number: the call -/
section
variable {L : Nat} {xs : Nat → Int} {d : Nat} {S T U : AH}
theorem x_numberOn (gl : GL S) {k : Nat} (hk : k < 5) (day : Int) : ∃ T, ev (WK L xs) (d + 5) 108 [vr 31, vi (k : Int), vi day] S = some (nmL S.2 (skd S.2 day) day (nlet k) (ndef k) (S.2 72 36).toNat, T) ∧ B35 S T day (skd S.2 day) (S.2 72 36).toNat := by
  have hl := gl.2
  obtain ⟨T, t1, t2⟩ := x_weigh (L := L) (xs := xs) (d := d) gl day
  have hlt : nlet k ≠ 120 := by
    have : k = 0 ∨ k = 1 ∨ k = 2 ∨ k = 3 ∨ k = 4 := by omega
    rcases this with rfl | rfl | rfl | rfl | rfl <;> decide
  refine ⟨T, ?_, t2⟩
  rw [q_108, if_neg (by first | decide | omega), if_pos (by first | decide | omega), x_nlen, bR, if_pos (by first | decide | omega), t1, bR, x_nlet hk, bR, t2.2.1 31 (by decide), gl.1, w32e (by first | decide | omega) (by first | decide | omega)]
  have := x_nmL (L := L) (xs := xs) (d := d + 2) gl hk t2 hlt (S.2 72 36).toNat (by first | decide | omega)
  rw [show ((S.2 72 36).toNat : Int) - 1 = S.2 72 36 - 1 by omega] at this
  exact this
end
