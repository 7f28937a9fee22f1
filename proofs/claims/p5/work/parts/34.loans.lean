/-! loan, repay -/
noncomputable def itr (h : Nat → Nat → Int) (n : Nat) (t : Int) : Int := ldiv (w64 (w64 (h 142 n * h 143 n) * w32 (t - h 144 n))) 3600000
section
variable {L : Nat} {xs : Nat → Int} {d : Nat} {S : AH}
theorem x_isLoan (p : Int) : ev (WK L xs) (d + 1) 116 [vr 63, vi p] S = some (bi (0 ≤ p ∧ p < S.2 63 10), S) := by
  rw [q_116]
  by_cases h1 : p < 0
  · rw [if_pos h1, bi_F (by first | decide | omega)]
  · rw [if_neg h1]
    by_cases h2 : p < S.2 63 10
    · rw [if_pos h2, bi_T (by first | decide | omega)]
    · rw [if_neg h2, bi_F (by first | decide | omega)]
theorem x_interestOn (hN : GN S.2) {n : Nat} (hn : (n : Int) < S.2 72 93) (t : Int) : ev (WK L xs) (d + 2) 118 [vr 63, vi (n : Int), vi t] S = some (itr S.2 n (if S.2 145 n = -1 then t else S.2 145 n), S) := by
  obtain ⟨-, -, -, ⟨l1, l2⟩, l3, l4, l5⟩ := hN
  obtain ⟨⟨a1, a2, a3, a4⟩, -⟩ := l5 n hn
  have key : ∀ t0 : Int, LQ (WK L xs) (ev (WK L xs) (d + 1)) 118 32 [some (vr 63), some (vi (n : Int)), none, none] [vi t0] S = some (itr S.2 n t0, S) := by
    intro t0
    rw [q_118_32, if_pos (by first | decide | omega), if_pos (by first | decide | omega), if_pos (by first | decide | omega), Int.toNat_natCast, a1, a2, a3]
    rfl
  rw [q_118, x_isLoan, bR]
  simp only [bi_0]
  rw [l3, if_neg (by first | decide | omega), if_pos (by first | decide | omega), Int.toNat_natCast, a4]
  by_cases h : S.2 145 n = -1
  · rw [if_pos h, if_pos h, key]
  · rw [if_neg h, if_neg h, if_pos (by first | decide | omega), key]
theorem x_backOn (hN : GN S.2) {n : Nat} (hn : (n : Int) < S.2 72 93) : ev (WK L xs) (d + 2) 117 [vr 63, vi (n : Int)] S = some (S.2 145 n, S) := by
  obtain ⟨-, -, -, ⟨l1, l2⟩, l3, l4, l5⟩ := hN
  rw [q_117, x_isLoan, bR]
  simp only [bi_0]
  rw [l3, if_neg (by first | decide | omega), if_pos (by first | decide | omega), Int.toNat_natCast, (l5 n hn).1.2.2.2]
theorem x_sumOf (hN : GN S.2) {n : Nat} (hn : (n : Int) < S.2 72 93) : ev (WK L xs) (d + 2) 119 [vr 63, vi (n : Int)] S = some (S.2 142 n, S) := by
  obtain ⟨-, -, -, ⟨l1, l2⟩, l3, l4, l5⟩ := hN
  rw [q_119, x_isLoan, bR]
  simp only [bi_0]
  rw [l3, if_neg (by first | decide | omega), if_pos (by first | decide | omega), Int.toNat_natCast, (l5 n hn).1.1]
theorem m_interest {n : Nat} (hn : n < 30) (t : Int) : ev (WK L xs) (d + 1) 297 [vr 72, vi (n : Int), vi t] S = some (itr S.2 n t, S) := by
  rw [q_297, if_pos (by first | decide | omega), if_pos (by first | decide | omega), if_pos (by first | decide | omega), Int.toNat_natCast]
  rfl
theorem o_loan (H : Inv S) (p q : Int) : Ok L xs 50 298 [vi p, vi q] S := by
  have hN := H.gn
  have ht := H.gt.1
  obtain ⟨-, -, -, ⟨l1, l2⟩, l3, l4, l5⟩ := hN
  by_cases hp : 0 ≤ p ∧ p < S.2 72 93
  · obtain ⟨n, hn⟩ := Int.eq_ofNat_of_zero_le hp.1
    subst hn
    obtain ⟨⟨a1, a2, a3, a4⟩, -⟩ := l5 n hp.2
    refine Ok.same (r := if q = 0 then S.2 142 n else if q = 1 then S.2 143 n else if q = 2 then S.2 144 n else if q = 3 then S.2 145 n else if q = 4 then itr S.2 n (if S.2 145 n = -1 then S.2 72 2 else S.2 145 n) else -1) H ?_ ?_
    · rw [q_50]
      simp only [x_isLoan, q_119, q_121, q_122, q_117, x_interestOn H.gn hp.2, bR, bi_0, l3, ht]
      have hq : (0 : Int) ≤ (n : Int) ∧ (n : Int) < 30 := by omega
      rw [if_neg (fun z => z hp)]
      simp only [if_neg (show ¬ ¬ (0 ≤ (n : Int) ∧ (n : Int) < S.2 72 93) from fun z => z hp), if_pos hq, Int.toNat_natCast, a1, a2, a3, a4]
      repeat' split
      all_goals first | rfl | (exfalso; omega)
    · rw [q_298]
      have hq : (0 : Int) ≤ (n : Int) ∧ (n : Int) < 30 := by omega
      simp only [m_lies, m_interest (show n < 30 by omega), bR, bi_0]
      rw [w32e (by first | decide | omega) (by first | decide | omega), if_neg (by first | decide | omega)]
      simp only [if_pos hq, Int.toNat_natCast]
      repeat' split
      all_goals first | rfl | (exfalso; omega)
  · refine Ok.same (r := -1) H ?_ ?_
    · rw [q_50]
      simp only [x_isLoan, bR, bi_0, l3]
      rw [if_pos hp]
    · rw [q_298]
      simp only [m_lies, bR, bi_0]
      rw [w32e (by first | decide | omega) (by first | decide | omega), if_pos (by first | decide | omega)]
theorem o_repay (H : Inv S) (p : Int) : Ok L xs 49 296 [vi p] S := by
  have hN := H.gn
  have ht := H.gt.1
  have hc : S.2 15 1 = S.2 72 3 := H.gc.1
  obtain ⟨b0, b1, b2, ⟨l1, l2⟩, l3, l4, l5⟩ := hN
  by_cases hp : 0 ≤ p ∧ p < S.2 72 93
  · obtain ⟨n, hn⟩ := Int.eq_ofNat_of_zero_le hp.1
    subst hn
    obtain ⟨⟨a1, a2, a3, a4⟩, -⟩ := l5 n hp.2
    have hq : (0 : Int) ≤ (n : Int) ∧ (n : Int) < 30 := by omega
    by_cases hb : S.2 145 n = -1
    · have hI : ev (WK L xs) 199 118 [vr 63, vi (n : Int), vi (S.2 72 2)] S = some (itr S.2 n (S.2 72 2), S) := by
        have := x_interestOn (L := L) (xs := xs) (d := 197) H.gn hp.2 (S.2 72 2)
        rw [if_pos hb] at this
        exact this
      by_cases hm : S.2 72 3 < w64 (S.2 142 n + itr S.2 n (S.2 72 2))
      · refine Ok.same (r := 0) H ?_ ?_
        · rw [q_49]
          simp only [x_isLoan, x_backOn H.gn hp.2, bR, bi_0, l3]
          rw [if_neg (fun z => z hp), if_pos hb, ht, hI, bR, x_sumOf H.gn hp.2, bR, hc]
          simp only [lc_lt]
          rw [if_pos hm]
        · rw [q_296]
          simp only [m_lies, m_interest (show n < 30 by omega), bR, bi_0, lc_lt, Int.toNat_natCast]
          rw [w32e (by first | decide | omega) (by first | decide | omega), if_neg (by first | decide | omega), if_pos hq, if_pos hb, if_pos hq, if_pos hm]
      · refine ⟨1, wr (wr (wr S 15 1 (w64 (S.2 72 3 - w64 (S.2 142 n + itr S.2 n (S.2 72 2))))) 71 n (S.2 72 2)) 63 11 (w64 (S.2 72 86 + itr S.2 n (S.2 72 2))), wr (wr (wr (wr (wr (wr S 15 1 (w64 (S.2 72 3 - w64 (S.2 142 n + itr S.2 n (S.2 72 2))))) 71 n (S.2 72 2)) 63 11 (w64 (S.2 72 86 + itr S.2 n (S.2 72 2)))) 72 3 (w64 (S.2 72 3 - w64 (S.2 142 n + itr S.2 n (S.2 72 2))))) 72 86 (w64 (S.2 72 86 + itr S.2 n (S.2 72 2)))) 145 n (S.2 72 2), ?_, ?_, ?_, Gw.of rfl⟩
        · rw [q_49]
          simp only [x_isLoan, x_backOn H.gn hp.2, bR, bi_0, l3]
          rw [if_neg (fun z => z hp), if_pos hb, ht, hI, bR, x_sumOf H.gn hp.2, bR, hc]
          simp only [lc_lt]
          rw [if_neg hm, q_120, x_isLoan, bR]
          simp only [bi_0, Int.toNat_natCast, wr_c (show (63 : Nat) ≠ 15 by decide), wr_c (show (63 : Nat) ≠ 71 by decide), l3, l4, ht]
          rw [if_neg (fun z => z hp), if_pos hq, bR]
        · rw [q_296]
          simp only [m_lies, m_interest (show n < 30 by omega), bR, bi_0, lc_lt, Int.toNat_natCast, itr, wr_c (show (72 : Nat) ≠ 63 by decide), wr_c (show (72 : Nat) ≠ 71 by decide), wr_c (show (72 : Nat) ≠ 15 by decide), wr_c (show (145 : Nat) ≠ 63 by decide), wr_c (show (145 : Nat) ≠ 71 by decide), wr_c (show (145 : Nat) ≠ 15 by decide), wr_c (show (142 : Nat) ≠ 63 by decide), wr_c (show (142 : Nat) ≠ 71 by decide), wr_c (show (142 : Nat) ≠ 15 by decide), wr_c (show (143 : Nat) ≠ 63 by decide), wr_c (show (143 : Nat) ≠ 71 by decide), wr_c (show (143 : Nat) ≠ 15 by decide), wr_c (show (144 : Nat) ≠ 63 by decide), wr_c (show (144 : Nat) ≠ 71 by decide), wr_c (show (144 : Nat) ≠ 15 by decide), wr_c (show (142 : Nat) ≠ 72 by decide), wr_c (show (143 : Nat) ≠ 72 by decide), wr_c (show (144 : Nat) ≠ 72 by decide)]
          unfold itr at hm
          rw [w32e (by first | decide | omega) (by first | decide | omega), if_neg (by first | decide | omega), if_pos hq, if_pos hb, if_pos hq, if_neg hm, if_pos hq, if_pos hq]
          simp only [wr_f, wr_c (show (72 : Nat) ≠ 63 by decide), wr_c (show (72 : Nat) ≠ 71 by decide), wr_c (show (72 : Nat) ≠ 15 by decide), if_neg (show ¬ (2 : Nat) = 3 by decide)]
        · refine Inv.upd H ?_ (fun a ha => ?_) (fun k hk => ?_) ?_ ?_ ?_ ?_ ?_ ?_ ?_ ?_ ?_
          · repeat' first | exact Fr.rf | exact Fr.wr (by decide) | refine Fr.tr ?_ (Fr.wr (by decide))
          · unfold lvk at ha
            repeat rw [wr_c (by first | decide | omega)]
          · unfold lvf at hk
            rcases hk with rfl | rfl | rfl | rfl | rfl | rfl <;> simp [wr_c, wr_f]
          · simp [HM, wr_c, wr_f]
          · exact H.gt.fr (by simp [wr_c, wr_f]) (by simp [wr_c, wr_f])
          · unfold GC
            simp [wr_c, wr_f, w64_i]
          · exact H.gx.fr (by simp [wr_c, wr_f]) (by simp [wr_c, wr_f])
          · exact H.gb.fr (by simp [wr_c, wr_f]) (by simp [wr_c, wr_f]) (by simp [wr_c, wr_f]) (by simp [wr_c, wr_f])
          · exact H.gp.fr (by simp [wr_c, wr_f]) (by simp [wr_c, wr_f]) (fun a ha => by repeat rw [wr_c (by first | decide | omega)])
          · exact H.gu.fr (by simp [wr_c, wr_f]) (by simp [wr_c, wr_f]) (by simp [wr_c, wr_f]) (fun a ha => by repeat rw [wr_c (by first | decide | omega)])
          · exact H.gw.fr (by simp [wr_c, wr_f]) (by simp [wr_c, wr_f]) (by simp [wr_c, wr_f]) (by simp [wr_c, wr_f]) (fun a ha => by repeat rw [wr_c (by first | decide | omega)])
          · unfold GN
            simp [wr_c, wr_f]
            refine ⟨b0, b1, b2, ⟨l1, l2⟩, l3, fun i hi => ?_⟩
            by_cases e : i = n
            · subst e; simp; exact ⟨⟨a1, a2, a3⟩, (l5 i hi).2⟩
            · simp [e]; exact l5 i hi
    · refine Ok.same (r := 0) H ?_ ?_
      · rw [q_49]
        simp only [x_isLoan, q_117, bR, bi_0, l3]
        rw [if_neg (fun z => z hp), if_neg (fun z => z hp), if_pos hq, bR, Int.toNat_natCast, a4, if_neg hb]
      · rw [q_296]
        simp only [m_lies, bR, bi_0]
        rw [w32e (by first | decide | omega) (by first | decide | omega), if_neg (by first | decide | omega), if_pos hq, Int.toNat_natCast, if_neg hb]
  · refine Ok.same (r := 0) H ?_ ?_
    · rw [q_49]
      simp only [x_isLoan, bR, bi_0, l3]
      rw [if_pos hp]
    · rw [q_296]
      simp only [m_lies, bR, bi_0]
      rw [w32e (by first | decide | omega) (by first | decide | omega), if_pos (by first | decide | omega)]
end
