/-! what counts on a day -/
section
variable {L : Nat} {xs : Nat → Int} {d : Nat} {S S' T : AH} {o : Nat}
theorem skC_all {h : Nat → Nat → Int} {i : Nat} {f : Nat → Bool} : ∀ (m j : Nat), (∀ k, j ≤ k → k < j + m → f (16 * i + k) = true) → skC h i m j f = f := by
  intro m
  induction m with
  | zero => intro j _; rfl
  | succ m ih =>
    intro j hk
    simp only [skC]
    rw [if_neg (fun z => by rw [hk j (Nat.le_refl _) (by first | decide | omega)] at z; exact absurd z.1 (by decide))]
    exact ih (j + 1) (fun k q1 q2 => hk k (by first | decide | omega) (by first | decide | omega))
theorem x_wl (gl : GL S) {day : Int} : ∀ (i : Nat) (T : AH) (f : Nat → Bool), (i : Int) ≤ S.2 72 36 → B35 S T day f (S.2 72 36).toNat → ∃ T', LQ (WK L xs) (ev (WK L xs) (d + 3)) 104 84 [some (vr 31), none, some (vi ((i : Int) - 1)), none, none] [] T = some (0, T') ∧ B35 S T' day (skL S.2 day i f) (S.2 72 36).toNat := by
  have hl := gl.2
  intro i
  induction i with
  | zero =>
    intro T f _ hB
    rw [q_104_84, if_pos (by first | decide | omega)]
    exact ⟨T, rfl, hB⟩
  | succ i ih =>
    intro T f hi hB
    have tx := (gl.2.2.2 i (by first | decide | omega)).2.2
    have hcm := cm_bd tx
    have e0 : ((i + 1 : Nat) : Int) - 1 = i := by omega
    have hq : (0 : Int) ≤ (i : Int) ∧ (i : Int) < 20 := by omega
    have h106 : ev (WK L xs) (d + 2) 106 [vr 31, vi (i : Int)] T = some (((S.2 32 i).toNat : Int), T) := by
      rw [q_106, q_103, hB.2.1 31 (by decide), gl.1, if_neg (by first | decide | omega), if_pos (by first | decide | omega), bR, if_neg (by decide), if_pos hq, hB.2.1 32 (by decide), Int.toNat_natCast]
    obtain ⟨z, z1, z2, z3⟩ := hB.2.2 i (by first | decide | omega)
    have h105 : ∃ T', ev (WK L xs) (d + 3) 105 [vr 31, vi (i : Int)] T = some (0, T') ∧ B35 S T' day (if inF S.2 day i = true then skC S.2 i (S.2 78 i).toNat 0 f else f) (S.2 72 36).toNat := by
      rw [q_105, h106, bR, Int.toNat_natCast, if_neg tx.ad.1, nb14 tx.ad.2, if_pos hq, Int.toNat_natCast, z1]
      by_cases hz : (z : Int) = 0
      · rw [if_pos hz]
        refine ⟨T, rfl, ?_⟩
        have hz0 : z = 0 := by omega
        by_cases hF : inF S.2 day i = true
        · rw [if_pos hF, skC_all]
          · exact hB
          · intro k _ hk
            have := z3 k (by first | decide | omega)
            rw [hz0, Nat.zero_testBit] at this
            unfold btsF at this
            rw [hF, decide_eq_true (show (k : Int) < S.2 78 i by omega)] at this
            cases hfk : f (16 * i + k) with
            | true => rfl
            | false => rw [hfk] at this; exact absurd this (by decide)
        · rw [if_neg hF]
          exact hB
      · rw [if_neg hz]
        have hF : inF S.2 day i = true := by
          cases hF : inF S.2 day i with
          | true => rfl
          | false =>
            exfalso
            apply hz
            have : z = 0 := by
              apply Nat.eq_of_testBit_eq
              intro j
              rw [Nat.zero_testBit]
              by_cases hj : j < 16
              · rw [z3 j hj]
                unfold btsF
                rw [hF]
                rfl
              · exact Nat.testBit_lt_two_pow (Nat.lt_of_lt_of_le z2 (Nat.pow_le_pow_right (n := 2) (by decide) (show 16 ≤ j by omega)))
            omega
        rw [if_pos hF]
        exact x_skC gl (by first | decide | omega) hF (S.2 78 i).toNat 0 T f (by first | decide | omega) hB
    obtain ⟨T1, t1, t2⟩ := h105
    rw [e0, q_104_84, if_neg (by first | decide | omega), t1, bR, w32e (by first | decide | omega) (by first | decide | omega), show (i : Int) + -1 = (i : Int) - 1 by omega]
    exact ih T1 _ (by first | decide | omega) t2
theorem x_weigh (gl : GL S) (day : Int) : ∃ T', ev (WK L xs) (d + 4) 104 [vr 31, vi day] S = some (0, T') ∧ B35 S T' day (skd S.2 day) (S.2 72 36).toNat := by
  have hl := gl.2
  obtain ⟨T, t1, t2⟩ := x_winit (L := L) (xs := xs) (d := d + 2) gl (day := day) (S.2 72 36).toNat 0 S (by first | decide | omega) ⟨rfl, fun _ _ => rfl, fun i hi => by omega⟩
  obtain ⟨U, u1, u2⟩ := x_wl (L := L) (xs := xs) (d := d) gl (day := day) (S.2 72 36).toNat T (fun _ => false) (by first | decide | omega) t2
  rw [show ((S.2 72 36).toNat : Int) - 1 = S.2 72 36 - 1 by omega] at u1
  rw [q_104]
  exact ⟨U, t1.trans u1, u2⟩
end
