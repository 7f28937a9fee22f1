/-! 22b.offer -/
section
variable {L : Nat} {xs : Nat → Int} {d : Nat} {S : AH}
theorem o_offer (H : Inv S) (p q r s : Int) : Ok L xs 44 287 [vi p, vi q, vi r, vi s] S := by
  obtain ⟨w1, w2, w3, ⟨w4, w5⟩, w6, w7⟩ := H.gw
  by_cases hc : S.2 72 87 < 9 ∧ (0 ≤ p ∧ p ≤ 1000000000) ∧ (0 ≤ q ∧ q ≤ 51) ∧ (1 ≤ r ∧ r ≤ 51) ∧ (0 ≤ s ∧ s ≤ 1000000000)
  · obtain ⟨n, hn⟩ := Int.eq_ofNat_of_zero_le w4
    refine ⟨S.2 72 87, wr (wr (wr (wr (wr S 57 n p) 58 n q) 59 n r) 60 n s) 54 7 (S.2 72 87 + 1), wr (wr (wr (wr (wr (wr (wr (wr (wr (wr S 57 n p) 58 n q) 59 n r) 60 n s) 54 7 (S.2 72 87 + 1)) 135 n p) 136 n q) 137 n r) 138 n s) 72 87 (S.2 72 87 + 1), ?_, ?_, ?_, Gw.of rfl⟩
    · rw [q_44]
      simp only [x_isSum, x_isWeek, q_188, bR, bi_0, w6]
      rw [wi (by first | decide | omega) (by first | decide | omega), w32e (by first | decide | omega) (by first | decide | omega), hn]
      ((repeat' split) <;> first | (exfalso; omega) | rfl)
    · rw [q_287]
      simp only [m_lies, m_isSum, bR, bi_0]
      simp only [wr_c (show (72 : Nat) ≠ 54 by decide), wr_c (show (72 : Nat) ≠ 57 by decide), wr_c (show (72 : Nat) ≠ 58 by decide), wr_c (show (72 : Nat) ≠ 59 by decide), wr_c (show (72 : Nat) ≠ 60 by decide)]
      rw [wi (by first | decide | omega) (by first | decide | omega), w32e (by first | decide | omega) (by first | decide | omega), hn]
      ((repeat' split) <;> first | (exfalso; omega) | rfl)
    · refine Inv.upd H ?_ (fun a ha => ?_) (fun k hk => ?_) ?_ ?_ ?_ ?_ ?_ ?_ ?_ ?_ ?_
      · repeat' first | exact Fr.rf | exact Fr.wr (by decide) | refine Fr.tr ?_ (Fr.wr (by decide))
      · unfold lvk at ha
        repeat rw [wr_c (by first | decide | omega)]
      · unfold lvf at hk
        rcases hk with rfl | rfl | rfl | rfl | rfl | rfl <;> simp [wr_c, wr_f]
      · simp [HM, wr_c, wr_f]
      · exact H.gt.fr (by simp [wr_c, wr_f]) (by simp [wr_c, wr_f])
      · exact H.gc.fr (by simp [wr_c, wr_f]) (by simp [wr_c, wr_f])
      · exact H.gx.fr (by simp [wr_c, wr_f]) (by simp [wr_c, wr_f])
      · exact H.gb.fr (by simp [wr_c, wr_f]) (by simp [wr_c, wr_f]) (by simp [wr_c, wr_f]) (by simp [wr_c, wr_f])
      · exact H.gp.fr (by simp [wr_c, wr_f]) (by simp [wr_c, wr_f]) (fun a ha => by repeat rw [wr_c (by first | decide | omega)])
      · exact H.gu.fr (by simp [wr_c, wr_f]) (by simp [wr_c, wr_f]) (by simp [wr_c, wr_f]) (fun a ha => by repeat rw [wr_c (by first | decide | omega)])
      · unfold GW
        simp [wr_c, wr_f]
        refine ⟨w1, w2, w3, by omega, fun i hi => ?_⟩
        by_cases e : i = n
        · simp [e]; omega
        · simp [e]; exact w7 i (by first | decide | omega)
      · exact H.gn.fr (by simp [wr_c, wr_f]) (by simp [wr_c, wr_f]) (by simp [wr_c, wr_f]) (by simp [wr_c, wr_f]) (by simp [wr_c, wr_f]) (by simp [wr_c, wr_f]) (fun a ha => by repeat rw [wr_c (by first | decide | omega)])
  · refine Ok.same (r := -1) H ?_ ?_
    · rw [q_44]
      simp only [x_isSum, x_isWeek, q_188, bR, bi_0, w6]
      ((repeat' split) <;> first | (exfalso; omega) | rfl)
    · rw [q_287]
      simp only [m_lies, m_isSum, bR, bi_0]
      ((repeat' split) <;> first | (exfalso; omega) | rfl)
end
