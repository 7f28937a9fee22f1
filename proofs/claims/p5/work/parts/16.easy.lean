/-! time, heads, hands -/
theorem Inv.upd {S S' : AH} (H : Inv S) (hF : Fr S S') (hc : ∀ a, lvk a → S'.2 a = S.2 a) (hk : ∀ k, lvf k → S'.2 72 k = S.2 72 k) (hm : HM S.2 S'.2) (gt : GT S'.2) (gc : GC S'.2) (gx : GX S'.2) (gb : GB S'.2) (gp : GP S'.2) (gu : GU S'.2) (gw : GW S'.2) (gn : GN S'.2) : Inv S' :=
  ⟨Nat.le_trans H.1 hF.1, gt, gc, gx, gb, gp, H.2.2.2.2.2.2.1.fr hF hc hk, H.2.2.2.2.2.2.2.1.fr hF hc hk hm, H.2.2.2.2.2.2.2.2.1.fr hF hc hk hm, gu, gw, gn⟩
theorem Gw.rf {S : AH} : Gw S S := ⟨by omega, by omega⟩
theorem Gw.of {S S' : AH} (h : S'.1 = S.1) : Gw S S' := by unfold Gw; rw [h]; omega
theorem ite_bi {P : Prop} [Decidable P] {S : AH} : (if P then (some ((1 : Int), S) : Rs) else some (0, S)) = some (bi P, S) := by
  unfold bi
  by_cases h : P
  · rw [if_pos h, if_pos h]
  · rw [if_neg h, if_neg h]
theorem ite_bin {P : Prop} [Decidable P] {S : AH} : (if P then (some ((0 : Int), S) : Rs) else some (1, S)) = some (bi (¬ P), S) := by
  unfold bi
  by_cases h : P
  · rw [if_pos h, if_neg (fun q => q h)]
  · rw [if_neg h, if_pos h]
theorem rng {p lo hi : Int} {S : AH} : (if p < lo then (some ((0 : Int), S) : Rs) else if p < hi then some (1, S) else some (0, S)) = some (bi (lo ≤ p ∧ p < hi), S) := by
  by_cases h1 : p < lo
  · rw [if_pos h1, bi_F (by first | decide | omega)]
  · rw [if_neg h1, ite_bi]
    congr 2
    exact bi_iff (by first | decide | omega)
section
variable {L : Nat} {xs : Nat → Int} {d : Nat} {S : AH}
theorem x_isDay (p : Int) : ev (WK L xs) (d + 1) 3 [vi p] S = some (bi (0 ≤ p ∧ p < 3600), S) := by rw [q_3, rng]
theorem x_isYear (p : Int) : ev (WK L xs) (d + 1) 14 [vi p] S = some (bi (0 ≤ p ∧ p < 10), S) := by rw [q_14, rng]
theorem x_isWeek (p : Int) : ev (WK L xs) (d + 1) 40 [vi p] S = some (bi (0 ≤ p ∧ p < 52), S) := by rw [q_40, rng]
theorem x_isTax (p : Int) : ev (WK L xs) (d + 1) 37 [vi p] S = some (bi (0 ≤ p ∧ p < 6), S) := by rw [q_37, rng]
theorem x_isSum (p : Int) : ev (WK L xs) (d + 1) 13 [vi p] S = some (bi (0 ≤ p ∧ p ≤ 1000000000), S) := by
  rw [q_13]
  by_cases h1 : p < 0
  · rw [if_pos h1, bi_F (by first | decide | omega)]
  · rw [if_neg h1, ite_bin]
    congr 2
    exact bi_iff (by first | decide | omega)
theorem x_yearOf (p : Int) : ev (WK L xs) (d + 1) 17 [vi p] S = some (yr p, S) := by rw [q_17]; rfl
theorem x_weekOf (p : Int) : ev (WK L xs) (d + 1) 38 [vi p] S = some (idiv (Int.tmod p 360) 7, S) := by rw [q_38]
theorem x_isHead (p : Int) : ev (WK L xs) (d + 1) 125 [vr 17, vi p] S = some (bi (0 ≤ p ∧ p < S.2 17 1), S) := by rw [q_125, rng]
theorem x_isHand (p : Int) : ev (WK L xs) (d + 1) 129 [vr 17, vi p] S = some (bi (0 ≤ p ∧ p < S.2 17 5), S) := by rw [q_129, rng]
theorem m_isHead (hR : RP S.2) (p : Int) : ev (WK L xs) (d + 2) 197 [vr 72, vi p] S = some (bi (0 ≤ p ∧ p < S.2 72 4), S) := by
  obtain ⟨⟨h1, h2⟩, -⟩ := hR
  rw [q_197, w32e (by first | decide | omega) (by first | decide | omega)]
  simp only [m_lies, bR, bi_01, if_true]
  congr 2
  exact bi_iff (by first | decide | omega)
theorem m_isHand (hR : RP S.2) (p : Int) : ev (WK L xs) (d + 2) 257 [vr 72, vi p] S = some (bi (0 ≤ p ∧ p < S.2 72 5), S) := by
  obtain ⟨-, ⟨h1, h2⟩, -⟩ := hR
  rw [q_257, w32e (by first | decide | omega) (by first | decide | omega)]
  simp only [m_lies, bR, bi_01, if_true]
  congr 2
  exact bi_iff (by first | decide | omega)
/-- climbing the tree -/
theorem und_self (p : Nat → Int) (n a : Nat) : und p n a a = true := by
  cases n <;> simp [und]
end
