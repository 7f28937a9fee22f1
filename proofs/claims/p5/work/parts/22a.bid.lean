/-! 22a.bid -/
section
variable {L : Nat} {xs : Nat → Int} {d : Nat} {S : AH}
theorem o_bid (H : Inv S) (p q : Int) : Ok L xs 47 292 [vi p, vi q] S := by
  obtain ⟨⟨b1, b2⟩, b3, b4, b5⟩ := H.gn
  by_cases hc : S.2 72 92 < 12 ∧ (1 ≤ p ∧ p ≤ 1000000000) ∧ (0 ≤ q ∧ q ≤ 9999)
  · obtain ⟨n, hn⟩ := Int.eq_ofNat_of_zero_le b1
    refine ⟨S.2 72 92, wr (wr (wr S 64 n p) 65 n q) 63 2 (S.2 72 92 + 1), wr (wr (wr (wr (wr (wr S 64 n p) 65 n q) 63 2 (S.2 72 92 + 1)) 139 n p) 140 n q) 72 92 (S.2 72 92 + 1), ?_, ?_, ?_, Gw.of rfl⟩
    · rw [q_47]
      simp only [x_isSum, q_110, bR, bi_0, b3]
      rw [wi (by first | decide | omega) (by first | decide | omega), w32e (by first | decide | omega) (by first | decide | omega), hn]
      ((repeat' split) <;> first | rfl | (exfalso; omega))
    · rw [q_292]
      simp only [m_lies, bR, bi_0]
      simp only [wr_c (show (72 : Nat) ≠ 63 by decide), wr_c (show (72 : Nat) ≠ 64 by decide), wr_c (show (72 : Nat) ≠ 65 by decide)]
      rw [wi (by first | decide | omega) (by first | decide | omega), w32e (by first | decide | omega) (by first | decide | omega), hn]
      ((repeat' split) <;> first | rfl | (exfalso; omega))
    · refine Inv.upd H ?_ (fun a ha => ?_) (fun k hk => ?_) ?_ ?_ ?_ ?_ ?_ ?_ ?_ ?_ ?_
      · repeat' first | exact Fr.rf | exact Fr.wr (by decide) | refine Fr.tr ?_ (Fr.wr (by decide))
      · unfold lvk at ha
        repeat rw [wr_c (by first | decide | omega)]
      · unfold lvf at hk
        rcases hk with rfl | rfl | rfl | rfl | rfl | rfl <;> simp [wr_c, wr_f]
      · simp [HM, wr_c, wr_f]
      · exact H.gt.fr (by simp [wr_c, wr_f]) (by simp [wr_c, wr_f])
      · exact H.gc.fr (by simp [wr_c, wr_f]) (by simp [wr_c, wr_f])
      · exact H.gx.fr (by simp [wr_c, wr_f]) (by simp [wr_c, wr_f])
      · exact H.gb.fr (by simp [wr_c, wr_f]) (by simp [wr_c, wr_f]) (by simp [wr_c, wr_f]) (by simp [wr_c, wr_f])
      · exact H.gp.fr (by simp [wr_c, wr_f]) (by simp [wr_c, wr_f]) (fun a ha => by repeat rw [wr_c (by first | decide | omega)])
      · exact H.gu.fr (by simp [wr_c, wr_f]) (by simp [wr_c, wr_f]) (by simp [wr_c, wr_f]) (fun a ha => by repeat rw [wr_c (by first | decide | omega)])
      · exact H.gw.fr (by simp [wr_c, wr_f]) (by simp [wr_c, wr_f]) (by simp [wr_c, wr_f]) (by simp [wr_c, wr_f]) (fun a ha => by repeat rw [wr_c (by first | decide | omega)])
      · unfold GN
        simp [wr_c, wr_f]
        refine ⟨by omega, fun i hi => ?_, b5⟩
        by_cases e : i = n
        · simp [e]; omega
        · simp [e]; exact b4 i (by first | decide | omega)
  · refine Ok.same (r := -1) H ?_ ?_
    · rw [q_47]
      simp only [x_isSum, q_110, bR, bi_0, b3]
      ((repeat' split) <;> first | rfl | (exfalso; omega))
    · rw [q_292]
      simp only [m_lies, bR, bi_0]
      ((repeat' split) <;> first | rfl | (exfalso; omega))
end
