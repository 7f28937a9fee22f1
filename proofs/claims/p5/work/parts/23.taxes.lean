/-! calls: comes, due, ask -/
section
variable {L : Nat} {xs : Nat → Int} {d : Nat} {S : AH}
theorem m_yr (hT : GT S.2) : ev (WK L xs) (d + 1) 243 [vr 72] S = some (S.2 72 2 / 360, S) := by rw [m_year, yr_v hT.2.1 hT.2.2]
theorem m_wk (hT : GT S.2) : ev (WK L xs) (d + 1) 279 [vr 72] S = some (S.2 72 2 % 360 / 7, S) := by rw [m_week, wk_v hT.2.1 hT.2.2]
theorem x_yr {p : Int} (h1 : 0 ≤ p) (h2 : p < 3600) : ev (WK L xs) (d + 1) 17 [vi p] S = some (p / 360, S) := by
  rw [x_yearOf]
  unfold yr
  rw [yr_v h1 h2]
theorem x_wk {p : Int} (h1 : 0 ≤ p) (h2 : p < 3600) : ev (WK L xs) (d + 1) 38 [vi p] S = some (p % 360 / 7, S) := by rw [x_weekOf, wk_v h1 h2]
theorem o_comes (H : Inv S) (k p : Int) : Ok L xs 36 278 [vi k, vi p] S := by
  obtain ⟨t1, t2, t3⟩ := H.gt
  obtain ⟨w1, w2, w3, w4⟩ := H.gw
  by_cases hk : 0 ≤ k ∧ k < 6
  · by_cases hp : 0 ≤ p ∧ p ≤ 1000000000
    · have hN : (520 * k + 52 * (S.2 72 2 / 360) + S.2 72 2 % 360 / 7).toNat < 3120 := by omega
      obtain ⟨n, hn⟩ := Int.eq_ofNat_of_zero_le (show 0 ≤ 520 * k + 52 * (S.2 72 2 / 360) + S.2 72 2 % 360 / 7 by omega)
      have hn2 : tpl k (S.2 72 2 / 360) (S.2 72 2 % 360 / 7) = n := by
        unfold tpl
        rw [hn]
        rfl
      obtain ⟨v1, v2, v3⟩ := w1 n (by first | decide | omega)
      have hcm : cme S.2 k (S.2 72 2 / 360) (S.2 72 2 % 360 / 7) = S.2 133 n := by
        unfold cme
        rw [if_pos (by first | decide | omega), hn2]
      by_cases hs : S.2 133 n + p ≤ 1000000000
      · have hx : ev (WK L xs) 199 179 [vr 54, vi k, vi (S.2 15 0), vi p] S = some (1, wr (wr S 55 n (S.2 133 n + p)) 54 1 (w64 (S.2 72 85 + p))) := by
          rw [q_179, t1]
          simp only [x_isTax, x_isDay, x_yr t2 t3, x_wk t2 t3, x_placeOf k _ _ hk (show 0 ≤ S.2 72 2 / 360 ∧ S.2 72 2 / 360 < 10 by omega) (show 0 ≤ S.2 72 2 % 360 / 7 ∧ S.2 72 2 % 360 / 7 < 52 by omega), bR, bi_0, lc_gt]
          rw [hn, Int.toNat_natCast, v1, w2, w64e (x := S.2 133 n + p) (by first | decide | omega) (by first | decide | omega), w32e (x := S.2 133 n + p) (by first | decide | omega) (by first | decide | omega), if_neg (by first | decide | omega), if_neg (by first | decide | omega), if_pos (by first | decide | omega), if_neg (by first | decide | omega), if_pos (by first | decide | omega), if_pos (by first | decide | omega)]
        generalize hS1 : wr (wr S 55 n (S.2 133 n + p)) 54 1 (w64 (S.2 72 85 + p)) = S1 at hx
        have c1 : S1.2 15 1 = S.2 72 3 := by rw [← hS1]; simp [wr_c]; exact H.gc.1
        refine ⟨1, wr S1 15 1 (w64 (S.2 72 3 + p)), wr (wr (wr (wr S1 15 1 (w64 (S.2 72 3 + p))) 133 n (S.2 133 n + p)) 72 85 (w64 (S.2 72 85 + p))) 72 3 (w64 (S.2 72 3 + p)), ?_, ?_, ?_, Gw.of (by rw [← hS1]; rfl)⟩
        · rw [q_36]
          simp only [x_isTax, x_isSum, bR, bi_0]
          rw [if_neg (by first | decide | omega), if_neg (by first | decide | omega), hx]
          simp only [bR, c1]
          rfl
        · have hT2 : GT (wr S1 15 1 (w64 (S.2 72 3 + p))).2 := by rw [← hS1]; exact H.gt.fr (by simp [wr_c, wr_f]) (by simp [wr_c, wr_f])
          have g1 : (wr S1 15 1 (w64 (S.2 72 3 + p))).2 72 = S.2 72 := by rw [← hS1]; simp [wr_c]
          have g2 : (wr S1 15 1 (w64 (S.2 72 3 + p))).2 133 = S.2 133 := by rw [← hS1]; simp [wr_c]
          have g3 : cme (wr S1 15 1 (w64 (S.2 72 3 + p))).2 k (S.2 72 2 / 360) (S.2 72 2 % 360 / 7) = S.2 133 n := by
            rw [← hcm]
            unfold cme
            rw [g2]
          rw [q_278]
          simp only [m_lies, m_isSum, m_yr hT2, m_wk hT2, bR, bi_0]
          rw [g1, m_cameIn k _ _ hk (by first | decide | omega) (by first | decide | omega)]
          simp only [bR, lc_gt, g3, m_yr hT2, m_wk hT2, g1, g2]
          rw [w32e (x := 520 * k) (by first | decide | omega) (by first | decide | omega), w32e (x := 52 * (S.2 72 2 / 360)) (by first | decide | omega) (by first | decide | omega), w32e (x := 520 * k + 52 * (S.2 72 2 / 360)) (by first | decide | omega) (by first | decide | omega), w32e (x := 520 * k + 52 * (S.2 72 2 / 360) + S.2 72 2 % 360 / 7) (by first | decide | omega) (by first | decide | omega), hn, Int.toNat_natCast, w64e (x := S.2 133 n + p) (by first | decide | omega) (by first | decide | omega), if_neg (by first | decide | omega), if_neg (by first | decide | omega), if_neg (by first | decide | omega), if_pos (by first | decide | omega), if_pos (by first | decide | omega)]
        · subst hS1
          refine Inv.upd H ?_ (fun a ha => ?_) (fun k hk => ?_) ?_ ?_ ?_ ?_ ?_ ?_ ?_ ?_ ?_
          · repeat' first | exact Fr.rf | exact Fr.wr (by decide) | refine Fr.tr ?_ (Fr.wr (by decide))
          · unfold lvk at ha
            repeat rw [wr_c (by first | decide | omega)]
          · unfold lvf at hk
            rcases hk with rfl | rfl | rfl | rfl | rfl | rfl <;> simp [wr_c, wr_f]
          · simp [HM, wr_c, wr_f]
          · exact H.gt.fr (by simp [wr_c, wr_f]) (by simp [wr_c, wr_f])
          · simp [GC, wr_c, wr_f, w64_i]
          · exact H.gx.fr (by simp [wr_c, wr_f]) (by simp [wr_c, wr_f])
          · exact H.gb.fr (by simp [wr_c, wr_f]) (by simp [wr_c, wr_f]) (by simp [wr_c, wr_f]) (by simp [wr_c, wr_f])
          · exact H.gp.fr (by simp [wr_c, wr_f]) (by simp [wr_c, wr_f]) (fun a ha => by repeat rw [wr_c (by first | decide | omega)])
          · exact H.gu.fr (by simp [wr_c, wr_f]) (by simp [wr_c, wr_f]) (by simp [wr_c, wr_f]) (fun a ha => by repeat rw [wr_c (by first | decide | omega)])
          · unfold GW
            simp [wr_c, wr_f]
            refine ⟨fun i hi => ?_, w3, w4⟩
            by_cases e : i = n
            · simp [e]; omega
            · simp [e]; exact w1 i hi
          · exact H.gn.fr (by simp [wr_c, wr_f]) (by simp [wr_c, wr_f]) (by simp [wr_c, wr_f]) (by simp [wr_c, wr_f]) (by simp [wr_c, wr_f]) (by simp [wr_c, wr_f]) (fun a ha => by repeat rw [wr_c (by first | decide | omega)])
      · refine Ok.same (r := 0) H ?_ ?_
        · have hx : ev (WK L xs) 199 179 [vr 54, vi k, vi (S.2 15 0), vi p] S = some (0, S) := by
            rw [q_179, t1]
            simp only [x_isTax, x_isDay, x_yr t2 t3, x_wk t2 t3, x_placeOf k _ _ hk (show 0 ≤ S.2 72 2 / 360 ∧ S.2 72 2 / 360 < 10 by omega) (show 0 ≤ S.2 72 2 % 360 / 7 ∧ S.2 72 2 % 360 / 7 < 52 by omega), bR, bi_0, lc_gt]
            rw [hn, Int.toNat_natCast, v1, w64e (x := S.2 133 n + p) (by first | decide | omega) (by first | decide | omega), if_neg (by first | decide | omega), if_neg (by first | decide | omega), if_pos (by first | decide | omega), if_pos (by first | decide | omega)]
          rw [q_36]
          simp only [x_isTax, x_isSum, bR, bi_0]
          rw [if_neg (by first | decide | omega), if_neg (by first | decide | omega), hx]
          rfl
        · rw [q_278]
          simp only [m_lies, m_isSum, m_yr H.gt, m_wk H.gt, bR, bi_0]
          rw [m_cameIn k _ _ hk (by first | decide | omega) (by first | decide | omega)]
          simp only [bR, lc_gt, hcm]
          rw [w64e (x := S.2 133 n + p) (by first | decide | omega) (by first | decide | omega), if_neg (by first | decide | omega), if_neg (by first | decide | omega), if_pos (by first | decide | omega)]
    · refine Ok.same (r := 0) H ?_ ?_
      · rw [q_36]
        simp only [x_isTax, x_isSum, bR, bi_0]
        rw [if_neg (by first | decide | omega), if_pos hp]
      · rw [q_278]
        simp only [m_lies, m_isSum, bR, bi_0]
        rw [if_neg (by first | decide | omega), if_pos hp]
  · refine Ok.same (r := 0) H ?_ ?_
    · rw [q_36]
      simp only [x_isTax, bR, bi_0]
      rw [if_pos hk]
    · rw [q_278]
      simp only [m_lies, bR, bi_0]
      rw [if_pos (by first | decide | omega)]
theorem o_due (H : Inv S) (w p : Int) : Ok L xs 42 284 [vi w, vi p] S := by
  obtain ⟨t1, t2, t3⟩ := H.gt
  obtain ⟨w1, w2, w3, w4⟩ := H.gw
  by_cases hc : (0 ≤ w ∧ w < 52) ∧ (0 ≤ p ∧ p ≤ 1000000000)
  · obtain ⟨n, hn⟩ := Int.eq_ofNat_of_zero_le (show 0 ≤ 52 * (S.2 72 2 / 360) + w by omega)
    have v1 := w3 n (by first | decide | omega)
    have hx : ev (WK L xs) 199 183 [vr 54, vi (S.2 72 2 / 360), vi w, vi p] S = some (0, wr S 56 n (w64 (S.2 134 n + p))) := by
      rw [q_183]
      simp only [x_isYear, x_isWeek, bR, bi_0]
      rw [w32e (x := S.2 72 2 / 360 * 52) (by first | decide | omega) (by first | decide | omega), w32e (x := S.2 72 2 / 360 * 52 + w) (by first | decide | omega) (by first | decide | omega), show S.2 72 2 / 360 * 52 + w = (n : Int) by omega, Int.toNat_natCast, v1, if_neg (by first | decide | omega), if_neg (by first | decide | omega), if_pos (by first | decide | omega), if_pos (by first | decide | omega)]
    refine ⟨1, wr S 56 n (w64 (S.2 134 n + p)), wr (wr S 56 n (w64 (S.2 134 n + p))) 134 n (w64 (S.2 134 n + p)), ?_, ?_, ?_, Gw.of rfl⟩
    · rw [q_42]
      simp only [x_isWeek, x_isSum, bR, bi_0, t1, x_yr t2 t3]
      rw [if_neg (by first | decide | omega), if_neg (by first | decide | omega), hx]
      rfl
    · have hT2 : GT (wr S 56 n (w64 (S.2 134 n + p))).2 := H.gt.fr (by simp [wr_c]) (by simp [wr_c])
      rw [q_284]
      simp only [m_lies, m_isSum, m_yr hT2, bR, bi_0, wr_c (show (72 : Nat) ≠ 56 by decide), wr_c (show (134 : Nat) ≠ 56 by decide)]
      rw [w32e (x := 52 * (S.2 72 2 / 360)) (by first | decide | omega) (by first | decide | omega), w32e (x := 52 * (S.2 72 2 / 360) + w) (by first | decide | omega) (by first | decide | omega), hn, Int.toNat_natCast, if_neg (by first | decide | omega), if_neg (by first | decide | omega), if_pos (by first | decide | omega), if_pos (by first | decide | omega)]
    · refine Inv.upd H ?_ (fun a ha => ?_) (fun k hk => ?_) ?_ ?_ ?_ ?_ ?_ ?_ ?_ ?_ ?_
      · repeat' first | exact Fr.rf | exact Fr.wr (by decide) | refine Fr.tr ?_ (Fr.wr (by decide))
      · unfold lvk at ha
        repeat rw [wr_c (by first | decide | omega)]
      · unfold lvf at hk
        rcases hk with rfl | rfl | rfl | rfl | rfl | rfl <;> simp [wr_c, wr_f]
      · simp [HM, wr_c, wr_f]
      · exact H.gt.fr (by simp [wr_c, wr_f]) (by simp [wr_c, wr_f])
      · exact H.gc.fr (by simp [wr_c, wr_f]) (by simp [wr_c, wr_f])
      · exact H.gx.fr (by simp [wr_c, wr_f]) (by simp [wr_c, wr_f])
      · exact H.gb.fr (by simp [wr_c, wr_f]) (by simp [wr_c, wr_f]) (by simp [wr_c, wr_f]) (by simp [wr_c, wr_f])
      · exact H.gp.fr (by simp [wr_c, wr_f]) (by simp [wr_c, wr_f]) (fun a ha => by repeat rw [wr_c (by first | decide | omega)])
      · exact H.gu.fr (by simp [wr_c, wr_f]) (by simp [wr_c, wr_f]) (by simp [wr_c, wr_f]) (fun a ha => by repeat rw [wr_c (by first | decide | omega)])
      · unfold GW
        simp [wr_c, wr_f]
        refine ⟨w1, w2, fun i hi => ?_, w4⟩
        by_cases e : i = n
        · simp [e]
        · simp [e]; exact w3 i hi
      · exact H.gn.fr (by simp [wr_c, wr_f]) (by simp [wr_c, wr_f]) (by simp [wr_c, wr_f]) (by simp [wr_c, wr_f]) (by simp [wr_c, wr_f]) (by simp [wr_c, wr_f]) (fun a ha => by repeat rw [wr_c (by first | decide | omega)])
  · refine Ok.same (r := 0) H ?_ ?_
    · rw [q_42]
      simp only [x_isWeek, x_isSum, bR, bi_0]
      by_cases h1 : 0 ≤ w ∧ w < 52
      · rw [if_neg (fun z => z h1), if_pos (fun z => hc ⟨h1, z⟩)]
      · rw [if_pos h1]
    · rw [q_284]
      simp only [m_lies, m_isSum, bR, bi_0]
      by_cases h1 : 0 ≤ w ∧ w < 52
      · rw [if_neg (by first | decide | omega), if_pos (fun z => hc ⟨h1, z⟩)]
      · rw [if_pos (by first | decide | omega)]
end
