/-! 22c.taxes -/
section
variable {L : Nat} {xs : Nat → Int} {d : Nat} {S : AH}
/-! taxes -/
theorem yr_v {x : Int} (h : 0 ≤ x) (h2 : x < 3600) : idiv x 360 = x / 360 := by
  unfold idiv
  rw [Int.tdiv_eq_ediv_of_nonneg h, w32e (by first | decide | omega) (by first | decide | omega)]
theorem wk_v {x : Int} (h : 0 ≤ x) (h2 : x < 3600) : idiv (Int.tmod x 360) 7 = x % 360 / 7 := by
  rw [Int.tmod_eq_emod_of_nonneg h]
  unfold idiv
  rw [Int.tdiv_eq_ediv_of_nonneg (by first | decide | omega), w32e (by first | decide | omega) (by first | decide | omega)]
/-- a tax's place -/
noncomputable def tpl (k y w : Int) : Nat := (520 * k + 52 * y + w).toNat
theorem x_placeOf (k y w : Int) (hk : 0 ≤ k ∧ k < 6) (hy : 0 ≤ y ∧ y < 10) (hw : 0 ≤ w ∧ w < 52) : ev (WK L xs) (d + 1) 180 [vr 54, vi k, vi y, vi w] S = some (520 * k + 52 * y + w, S) := by
  rw [q_180, w32e (x := k * 10) (by first | decide | omega) (by first | decide | omega), w32e (x := k * 10 + y) (by first | decide | omega) (by first | decide | omega), w32e (x := (k * 10 + y) * 52) (by first | decide | omega) (by first | decide | omega), w32e (by first | decide | omega) (by first | decide | omega)]
  congr 2
  omega
/-- what came: 0 in a year that never was -/
noncomputable def cme (h : Nat → Nat → Int) (k y w : Int) : Int := if 0 ≤ y then h 133 (tpl k y w) else 0
theorem m_cameIn (k y w : Int) (hk : 0 ≤ k ∧ k < 6) (hy : y < 10) (hw : 0 ≤ w ∧ w < 52) : ev (WK L xs) (d + 1) 280 [vr 72, vi k, vi y, vi w] S = some (cme S.2 k y w, S) := by
  rw [q_280]
  unfold cme
  by_cases h : y < 0
  · rw [if_pos h, if_neg (by first | decide | omega)]
  · rw [if_neg h, w32e (x := 520 * k) (by first | decide | omega) (by first | decide | omega), w32e (x := 52 * y) (by first | decide | omega) (by first | decide | omega), w32e (x := 520 * k + 52 * y) (by first | decide | omega) (by first | decide | omega), w32e (by first | decide | omega) (by first | decide | omega), if_pos (by first | decide | omega), if_pos (by first | decide | omega)]
    rfl
theorem x_arrivedIn (hW : GW S.2) (k y w : Int) (hk : 0 ≤ k ∧ k < 6) (hy : y < 10) (hw : 0 ≤ w ∧ w < 52) : ev (WK L xs) (d + 2) 181 [vr 54, vi k, vi y, vi w] S = some (cme S.2 k y w, S) := by
  rw [q_181]
  simp only [x_isTax, x_isYear, x_isWeek, bR, bi_0]
  unfold cme
  rw [if_neg (fun z => z hk)]
  by_cases h : 0 ≤ y
  · rw [if_neg (by first | decide | omega), if_neg (fun z => z hw), x_placeOf k y w hk ⟨h, hy⟩ hw, bR, if_pos (by first | decide | omega), if_pos h, (hW.1 (520 * k + 52 * y + w).toNat (by first | decide | omega)).1]
    rfl
  · rw [if_pos (by first | decide | omega), if_neg h]
theorem o_came (H : Inv S) (k y w : Int) : Ok L xs 39 281 [vi k, vi y, vi w] S := by
  by_cases hc : (0 ≤ k ∧ k < 6) ∧ (0 ≤ y ∧ y < 10) ∧ (0 ≤ w ∧ w < 52)
  · refine Ok.same (r := cme S.2 k y w) H ?_ ?_
    · rw [q_39]
      simp only [x_isTax, x_isYear, x_isWeek, x_arrivedIn H.gw k y w hc.1 hc.2.1.2 hc.2.2, bR, bi_0]
      ((repeat' split) <;> first | rfl | (exfalso; omega))
    · rw [q_281]
      simp only [m_lies, m_cameIn k y w hc.1 hc.2.1.2 hc.2.2, bR, bi_0]
      ((repeat' split) <;> first | rfl | (exfalso; omega))
  · refine Ok.same (r := -1) H ?_ ?_
    · rw [q_39]
      simp only [x_isTax, x_isYear, x_isWeek, bR, bi_0]
      by_cases h1 : 0 ≤ k ∧ k < 6
      · rw [if_neg (fun z => z h1)]
        by_cases h2 : 0 ≤ y ∧ y < 10
        · rw [if_neg (fun z => z h2), if_pos (fun z => hc ⟨h1, h2, z⟩)]
        · rw [if_pos h2]
      · rw [if_pos h1]
    · rw [q_281]
      simp only [m_lies, bR, bi_0]
      by_cases h1 : 0 ≤ k ∧ k < 6
      · rw [if_neg (by first | decide | omega)]
        by_cases h2 : 0 ≤ y ∧ y < 10
        · rw [if_neg (by first | decide | omega), if_pos (by first | decide | omega)]
        · rw [if_pos (by first | decide | omega)]
      · rw [if_pos (by first | decide | omega)]
end
