/-! number: the class's loop over laws -/
section
variable {L : Nat} {xs : Nat → Int} {d : Nat} {S T U : AH}
theorem x_nmL (gl : GL S) {f : Nat → Bool} {day lt : Int} {k : Nat} (hk : k < 5) (hB : B35 S T day f (S.2 72 36).toNat) (hlt : lt ≠ 120) : ∀ i : Nat, (i : Int) ≤ S.2 72 36 → LQ (WK L xs) (ev (WK L xs) (d + 2)) 108 43 [some (vr 31), some (vi (k : Int)), none, some (vi lt), some (vi ((i : Int) - 1)), none, none] [] T = some (nmL S.2 f day lt (ndef k) i, T) := by
  have hl := gl.2
  intro i
  induction i with
  | zero =>
    intro _
    rw [q_108_43, if_pos (by first | decide | omega), if_pos (by first | decide | omega), Int.toNat_natCast, x_ndef hk]
    rfl
  | succ i ih =>
    intro hi
    have tx := (gl.2.2.2 i (by first | decide | omega)).2.2
    have hcm := cm_bd tx
    have hq : (0 : Int) ≤ (i : Int) ∧ (i : Int) < 20 := by omega
    have h106 : ev (WK L xs) (d + 2) 106 [vr 31, vi (i : Int)] T = some (((S.2 32 i).toNat : Int), T) := by
      rw [q_106, q_103, hB.2.1 31 (by decide), gl.1, if_neg (by first | decide | omega), if_pos (by first | decide | omega), bR, if_neg (by decide), if_pos hq, hB.2.1 32 (by decide), Int.toNat_natCast]
    obtain ⟨x1, x2⟩ := x_clauses (L := L) (xs := xs) (d := d + 1) (hB.tx tx)
    have hc := x_nmC (L := L) (xs := xs) (d := d) gl (k := (k : Int)) hB hlt (i := i) (by first | decide | omega) (S.2 78 i).toNat (by first | decide | omega)
    rw [show ((S.2 78 i).toNat : Int) - 1 = S.2 78 i - 1 by omega, ih (by first | decide | omega)] at hc
    rw [show ((i + 1 : Nat) : Int) - 1 = (i : Int) by omega, q_108_43, if_neg (by first | decide | omega), h106, bR, Int.toNat_natCast, if_neg tx.ad.1, nb14 tx.ad.2, g19 rfl x1, x2, bR, hB.2.1 78 (by decide), w32e (by first | decide | omega) (by first | decide | omega), hc]
    simp only [nmL]
    cases nmC S.2 f day lt i (S.2 78 i).toNat <;> rfl
end
