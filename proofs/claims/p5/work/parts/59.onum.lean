/-! number: the call -/
theorem nmL_fr {h h' : Nat → Nat → Int} {f : Nat → Bool} {day lt dv : Int} (e0 : h' 78 = h 78) (e1 : h' 79 = h 79) (e2 : h' 80 = h 80) (e4 : h' 94 = h 94) (e5 : h' 95 = h 95) : ∀ i : Nat, nmL h' f day lt dv i = nmL h f day lt dv i := by
  have hI : ∀ i, inF h' day i = inF h day i := fun i => by unfold inF; rw [e4, e5]
  have hC : ∀ i j : Nat, nmC h' f day lt i j = nmC h f day lt i j := by
    intro i j
    induction j with
    | zero => rfl
    | succ j ih => simp only [nmC, hI, e1, e2, ih]
  intro i
  induction i with
  | zero => rfl
  | succ i ih => simp only [nmL, hC, e0, ih]
section
variable {L : Nat} {xs : Nat → Int} {d : Nat} {S T U : AH}
theorem o_number (H : Inv S) (p q : Int) : Ok L xs 11 235 [vi p, vi q] S := by
  have gl := H.gl
  by_cases hc : (0 ≤ p ∧ p < 5) ∧ (0 ≤ q ∧ q < 3600)
  · obtain ⟨h1, h2⟩ := hc
    obtain ⟨k, hk⟩ := Int.eq_ofNat_of_zero_le h1.1
    subst hk
    have hk5 : k < 5 := by omega
    obtain ⟨T, t1, t2⟩ := x_numberOn (L := L) (xs := xs) (d := 194) gl hk5 q
    obtain ⟨U, u1, u2⟩ := m_numberOf (L := L) (xs := xs) (d := 195) (t2.gl gl) (nlet k) q
    rw [t2.skd, nmL_fr (t2.2.1 78 (by decide)) (t2.2.1 79 (by decide)) (t2.2.1 80 (by decide)) (t2.2.1 94 (by decide)) (t2.2.1 95 (by decide)), t2.2.1 72 (by decide)] at u1
    rw [t2.skd] at u2
    obtain ⟨w1, w2⟩ := wg_inv H t2 u2
    refine ⟨nmL S.2 (skd S.2 q) q (nlet k) (ndef k) (S.2 72 36).toNat, T, U, ?_, ?_, w1, Gw.of w2⟩
    · rw [q_11, if_neg (by first | decide | omega), if_pos (by first | decide | omega), x_isDay, bR]
      simp only [bi_0]
      rw [if_neg (fun z => z h2), t1, bR]
    · rw [q_235, m_lies, bR]
      simp only [bi_0]
      rw [if_neg (by first | decide | omega)]
      have : k = 0 ∨ k = 1 ∨ k = 2 ∨ k = 3 ∨ k = 4 := by omega
      rcases this with rfl | rfl | rfl | rfl | rfl
      · rw [if_pos (by decide)]
        exact congrArg (fun z => bindR z (fun r S2 => some (r, S2))) u1
      · rw [if_neg (by decide), if_pos (by decide)]
        exact congrArg (fun z => bindR z (fun r S2 => some (r, S2))) u1
      · rw [if_neg (by decide), if_neg (by decide), if_pos (by decide)]
        exact congrArg (fun z => bindR z (fun r S2 => some (r, S2))) u1
      · rw [if_neg (by decide), if_neg (by decide), if_neg (by decide), if_pos (by decide)]
        exact congrArg (fun z => bindR z (fun r S2 => some (r, S2))) u1
      · rw [if_neg (by decide), if_neg (by decide), if_neg (by decide), if_neg (by decide), if_pos (by decide)]
        exact congrArg (fun z => bindR z (fun r S2 => some (r, S2))) u1
  · refine Ok.same (r := -1) H ?_ ?_
    · rw [q_11]
      by_cases h1 : p < 0
      · rw [if_pos h1]
      · rw [if_neg h1]
        by_cases h3 : p < 5
        · rw [if_pos h3, x_isDay, bR]
          simp only [bi_0]
          rw [if_pos (by first | decide | omega)]
        · rw [if_neg h3]
    · rw [q_235, m_lies, bR]
      simp only [bi_0]
      by_cases h1 : 0 ≤ q ∧ q ≤ 3599
      · rw [if_neg (fun z => z h1), if_neg (by first | decide | omega), if_neg (by first | decide | omega), if_neg (by first | decide | omega), if_neg (by first | decide | omega), if_neg (by first | decide | omega)]
      · rw [if_pos h1]
end
