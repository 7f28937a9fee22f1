/-! the letters of the numbers, and what holds without a law -/
section
variable {L : Nat} {xs : Nat → Int} {d : Nat} {S : AH}
noncomputable def nlet (k : Nat) : Int := [109, 99, 98, 101, 100].getD k 0
noncomputable def ndef (k : Nat) : Int := [10, 0, 0, 0, 30].getD k 0
theorem x_nlen : ev (WK L xs) (d + 2) 321 [vr 8] S = some (5, S) := by
  have e1 : rdv (WK L xs) S 8 1 = 0 := rfl
  have e2 : Nat.beq (shp (WK L xs) S 8).1 23 = true := rfl
  have e3 : Nat.ble (shp (WK L xs) S (rdv (WK L xs) S 8 0).toNat).1 6 = true := rfl
  have e4 : (shp (WK L xs) S (rdv (WK L xs) S 8 0).toNat).2 = 5 := rfl
  rw [q_321, q_322, e2, e3, e4, e1, gdT, gdT, show (true && Nat.ble 1 8) = true from rfl, gdT, gdT, if_pos (by decide), bR, show ishr ((5 : Nat) : Int) 0 = 5 by decide]
theorem x_nlet {k : Nat} (hk : k < 5) : ev (WK L xs) (d + 4) 326 [vr 8, vi (k : Int)] S = some (nlet k, S) := by
  have e1 : rdv (WK L xs) S 8 1 = 0 := rfl
  have e2 : Nat.beq (shp (WK L xs) S 8).1 23 = true := rfl
  have e3 : Nat.ble (shp (WK L xs) S (rdv (WK L xs) S 8 0).toNat).1 6 = true := rfl
  have e4 : (shp (WK L xs) S (rdv (WK L xs) S 8 0).toNat).2 = 5 := rfl
  have e5 : Nat.ble (shp (WK L xs) S (rdv (WK L xs) S 8 0).toNat).1 1 = true := rfl
  have hk5 : k = 0 ∨ k = 1 ∨ k = 2 ∨ k = 3 ∨ k = 4 := by omega
  have e6 : rdv (WK L xs) S (rdv (WK L xs) S 8 0).toNat k = nlet k := by
    rcases hk5 with rfl | rfl | rfl | rfl | rfl <;> rfl
  have e7 : w16u (iand (nlet k) 255) = nlet k := by
    rcases hk5 with rfl | rfl | rfl | rfl | rfl <;> decide
  have hb : 0 ≤ nlet k ∧ nlet k ≤ 65535 := by
    rcases hk5 with rfl | rfl | rfl | rfl | rfl <;> decide
  have h336 : ev (WK L xs) (d + 1) 336 [vi (k : Int), vi 5, vr 14] S = some ((k : Int), S) := by
    rw [q_336, if_neg (by first | decide | omega), if_pos (by first | decide | omega)]
  have h330 : ev (WK L xs) (d + 3) 330 [vr (rdv (WK L xs) S 8 0).toNat, vi (k : Int)] S = some (nlet k, S) := by
    rw [q_330, e3, gdT, e4, q_331, show ((5 : Nat) : Int) = 5 from rfl, h336, bR, bR, e5, gdT, if_pos (by first | decide | omega), Int.toNat_natCast, e6, e7, if_pos hb]
  rw [q_326, q_325, e2, e1, show (true && Nat.ble 0 8) = true from rfl, gdT, gdT, if_pos rfl, bR, if_neg (by decide), e2, gdT, h330, bR, if_pos hb]
theorem x_ndef {k : Nat} (hk : k < 5) : rdv (WK L xs) S 3 k = ndef k := by
  have : k = 0 ∨ k = 1 ∨ k = 2 ∨ k = 3 ∨ k = 4 := by omega
  rcases this with rfl | rfl | rfl | rfl | rfl <;> rfl
end
