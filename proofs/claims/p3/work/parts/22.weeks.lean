/-! calls: surcharged, bid, offer, ask, came, comes, due -/
section
variable {L : Nat} {xs : Nat → Int} {d : Nat} {S : AH}
theorem o_surcharged (H : Inv S) (p : Int) : Ok L xs 59 307 [vi p] S := by
  obtain ⟨hR, e1, e2, hA, hB, hC⟩ := H.gp
  have h16 := hR.2.1
  refine Ok.same (r := if 0 ≤ p ∧ p < S.2 72 5 then S.2 77 p.toNat else -1) H ?_ ?_
  · rw [q_59]
    simp only [q_133, x_isHand, bR, bi_0, e2]
    by_cases hc : 0 ≤ p ∧ p < S.2 72 5
    · rw [if_neg (fun z => z hc), if_neg (fun z => z hc), if_pos (by first | decide | omega), if_pos hc, hC p.toNat (by first | decide | omega)]
      rfl
    · rw [if_pos hc, if_neg hc]
  · rw [q_307]
    simp only [m_isHand hR, bR, bi_0]
    by_cases hc : 0 ≤ p ∧ p < S.2 72 5
    · rw [if_neg (fun z => z hc), if_pos (by first | decide | omega), if_pos hc]
    · rw [if_pos hc, if_neg hc]
theorem o_bid (H : Inv S) (p q : Int) : Ok L xs 47 292 [vi p, vi q] S := by
  obtain ⟨⟨b1, b2⟩, b3, b4, b5⟩ := H.gn
  by_cases hc : S.2 72 92 < 12 ∧ (1 ≤ p ∧ p ≤ 1000000000) ∧ (0 ≤ q ∧ q ≤ 9999)
  · obtain ⟨n, hn⟩ := Int.eq_ofNat_of_zero_le b1
    refine ⟨S.2 72 92, wr (wr (wr S 64 n p) 65 n q) 63 2 (S.2 72 92 + 1), wr (wr (wr (wr (wr (wr S 64 n p) 65 n q) 63 2 (S.2 72 92 + 1)) 139 n p) 140 n q) 72 92 (S.2 72 92 + 1), ?_, ?_, ?_, Gw.of rfl⟩
    · rw [q_47]
      simp only [x_isSum, q_110, bR, bi_0, b3]
      rw [wi (by first | decide | omega) (by first | decide | omega), w32e (by first | decide | omega) (by first | decide | omega), hn]
      ((repeat' split) <;> first | rfl | (exfalso; omega))
    · rw [q_292]
      simp only [m_lies, bR, bi_0]
      simp only [wr_c (show (72 : Nat) ≠ 63 by decide), wr_c (show (72 : Nat) ≠ 64 by decide), wr_c (show (72 : Nat) ≠ 65 by decide)]
      rw [wi (by first | decide | omega) (by first | decide | omega), w32e (by first | decide | omega) (by first | decide | omega), hn]
      ((repeat' split) <;> first | rfl | (exfalso; omega))
    · refine Inv.upd H ?_ (fun a ha => ?_) (fun k hk => ?_) ?_ ?_ ?_ ?_ ?_ ?_ ?_ ?_ ?_
      · repeat' first | exact Fr.rf | exact Fr.wr (by decide) | refine Fr.tr ?_ (Fr.wr (by decide))
      · unfold lvk at ha
        repeat rw [wr_c (by first | decide | omega)]
      · unfold lvf at hk
        rcases hk with rfl | rfl | rfl | rfl | rfl | rfl <;> simp [wr_c, wr_f]
      · simp [HM, wr_c, wr_f]
      · exact H.gt.fr (by simp [wr_c, wr_f]) (by simp [wr_c, wr_f])
      · exact H.gc.fr (by simp [wr_c, wr_f]) (by simp [wr_c, wr_f])
      · exact H.gx.fr (by simp [wr_c, wr_f]) (by simp [wr_c, wr_f])
      · exact H.gb.fr (by simp [wr_c, wr_f]) (by simp [wr_c, wr_f]) (by simp [wr_c, wr_f]) (by simp [wr_c, wr_f])
      · exact H.gp.fr (by simp [wr_c, wr_f]) (by simp [wr_c, wr_f]) (fun a ha => by repeat rw [wr_c (by first | decide | omega)])
      · exact H.gu.fr (by simp [wr_c, wr_f]) (by simp [wr_c, wr_f]) (by simp [wr_c, wr_f]) (fun a ha => by repeat rw [wr_c (by first | decide | omega)])
      · exact H.gw.fr (by simp [wr_c, wr_f]) (by simp [wr_c, wr_f]) (by simp [wr_c, wr_f]) (by simp [wr_c, wr_f]) (fun a ha => by repeat rw [wr_c (by first | decide | omega)])
      · unfold GN
        simp [wr_c, wr_f]
        refine ⟨by omega, fun i hi => ?_, b5⟩
        by_cases e : i = n
        · simp [e]; omega
        · simp [e]; exact b4 i (by first | decide | omega)
  · refine Ok.same (r := -1) H ?_ ?_
    · rw [q_47]
      simp only [x_isSum, q_110, bR, bi_0, b3]
      ((repeat' split) <;> first | rfl | (exfalso; omega))
    · rw [q_292]
      simp only [m_lies, bR, bi_0]
      ((repeat' split) <;> first | rfl | (exfalso; omega))
theorem o_offer (H : Inv S) (p q r s : Int) : Ok L xs 44 287 [vi p, vi q, vi r, vi s] S := by
  obtain ⟨w1, w2, w3, ⟨w4, w5⟩, w6, w7⟩ := H.gw
  by_cases hc : S.2 72 87 < 9 ∧ (0 ≤ p ∧ p ≤ 1000000000) ∧ (0 ≤ q ∧ q ≤ 51) ∧ (1 ≤ r ∧ r ≤ 51) ∧ (0 ≤ s ∧ s ≤ 1000000000)
  · obtain ⟨n, hn⟩ := Int.eq_ofNat_of_zero_le w4
    refine ⟨S.2 72 87, wr (wr (wr (wr (wr S 57 n p) 58 n q) 59 n r) 60 n s) 54 7 (S.2 72 87 + 1), wr (wr (wr (wr (wr (wr (wr (wr (wr (wr S 57 n p) 58 n q) 59 n r) 60 n s) 54 7 (S.2 72 87 + 1)) 135 n p) 136 n q) 137 n r) 138 n s) 72 87 (S.2 72 87 + 1), ?_, ?_, ?_, Gw.of rfl⟩
    · rw [q_44]
      simp only [x_isSum, x_isWeek, q_188, bR, bi_0, w6]
      rw [wi (by first | decide | omega) (by first | decide | omega), w32e (by first | decide | omega) (by first | decide | omega), hn]
      ((repeat' split) <;> first | rfl | (exfalso; omega))
    · rw [q_287]
      simp only [m_lies, m_isSum, bR, bi_0]
      simp only [wr_c (show (72 : Nat) ≠ 54 by decide), wr_c (show (72 : Nat) ≠ 57 by decide), wr_c (show (72 : Nat) ≠ 58 by decide), wr_c (show (72 : Nat) ≠ 59 by decide), wr_c (show (72 : Nat) ≠ 60 by decide)]
      rw [wi (by first | decide | omega) (by first | decide | omega), w32e (by first | decide | omega) (by first | decide | omega), hn]
      ((repeat' split) <;> first | rfl | (exfalso; omega))
    · refine Inv.upd H ?_ (fun a ha => ?_) (fun k hk => ?_) ?_ ?_ ?_ ?_ ?_ ?_ ?_ ?_ ?_
      · repeat' first | exact Fr.rf | exact Fr.wr (by decide) | refine Fr.tr ?_ (Fr.wr (by decide))
      · unfold lvk at ha
        repeat rw [wr_c (by first | decide | omega)]
      · unfold lvf at hk
        rcases hk with rfl | rfl | rfl | rfl | rfl | rfl <;> simp [wr_c, wr_f]
      · simp [HM, wr_c, wr_f]
      · exact H.gt.fr (by simp [wr_c, wr_f]) (by simp [wr_c, wr_f])
      · exact H.gc.fr (by simp [wr_c, wr_f]) (by simp [wr_c, wr_f])
      · exact H.gx.fr (by simp [wr_c, wr_f]) (by simp [wr_c, wr_f])
      · exact H.gb.fr (by simp [wr_c, wr_f]) (by simp [wr_c, wr_f]) (by simp [wr_c, wr_f]) (by simp [wr_c, wr_f])
      · exact H.gp.fr (by simp [wr_c, wr_f]) (by simp [wr_c, wr_f]) (fun a ha => by repeat rw [wr_c (by first | decide | omega)])
      · exact H.gu.fr (by simp [wr_c, wr_f]) (by simp [wr_c, wr_f]) (by simp [wr_c, wr_f]) (fun a ha => by repeat rw [wr_c (by first | decide | omega)])
      · unfold GW
        simp [wr_c, wr_f]
        refine ⟨w1, w2, w3, by omega, fun i hi => ?_⟩
        by_cases e : i = n
        · simp [e]; omega
        · simp [e]; exact w7 i (by first | decide | omega)
      · exact H.gn.fr (by simp [wr_c, wr_f]) (by simp [wr_c, wr_f]) (by simp [wr_c, wr_f]) (by simp [wr_c, wr_f]) (by simp [wr_c, wr_f]) (by simp [wr_c, wr_f]) (fun a ha => by repeat rw [wr_c (by first | decide | omega)])
  · refine Ok.same (r := -1) H ?_ ?_
    · rw [q_44]
      simp only [x_isSum, x_isWeek, q_188, bR, bi_0, w6]
      ((repeat' split) <;> first | rfl | (exfalso; omega))
    · rw [q_287]
      simp only [m_lies, m_isSum, bR, bi_0]
      ((repeat' split) <;> first | rfl | (exfalso; omega))
/-! taxes -/
theorem yr_v {x : Int} (h : 0 ≤ x) (h2 : x < 3600) : idiv x 360 = x / 360 := by
  unfold idiv
  rw [Int.tdiv_eq_ediv_of_nonneg h, w32e (by first | decide | omega) (by first | decide | omega)]
theorem wk_v {x : Int} (h : 0 ≤ x) (h2 : x < 3600) : idiv (Int.tmod x 360) 7 = x % 360 / 7 := by
  rw [Int.tmod_eq_emod_of_nonneg h]
  unfold idiv
  rw [Int.tdiv_eq_ediv_of_nonneg (by first | decide | omega), w32e (by first | decide | omega) (by first | decide | omega)]
/-- a tax's place -/
noncomputable def tpl (k y w : Int) : Nat := (520 * k + 52 * y + w).toNat
theorem x_placeOf (k y w : Int) (hk : 0 ≤ k ∧ k < 6) (hy : 0 ≤ y ∧ y < 10) (hw : 0 ≤ w ∧ w < 52) : ev (WK L xs) (d + 1) 180 [vr 54, vi k, vi y, vi w] S = some (520 * k + 52 * y + w, S) := by
  rw [q_180, w32e (x := k * 10) (by first | decide | omega) (by first | decide | omega), w32e (x := k * 10 + y) (by first | decide | omega) (by first | decide | omega), w32e (x := (k * 10 + y) * 52) (by first | decide | omega) (by first | decide | omega), w32e (by first | decide | omega) (by first | decide | omega)]
  congr 2
  omega
/-- what came: 0 in a year that never was -/
noncomputable def cme (h : Nat → Nat → Int) (k y w : Int) : Int := if 0 ≤ y then h 133 (tpl k y w) else 0
theorem m_cameIn (k y w : Int) (hk : 0 ≤ k ∧ k < 6) (hy : y < 10) (hw : 0 ≤ w ∧ w < 52) : ev (WK L xs) (d + 1) 280 [vr 72, vi k, vi y, vi w] S = some (cme S.2 k y w, S) := by
  rw [q_280]
  unfold cme
  by_cases h : y < 0
  · rw [if_pos h, if_neg (by first | decide | omega)]
  · rw [if_neg h, w32e (x := 520 * k) (by first | decide | omega) (by first | decide | omega), w32e (x := 52 * y) (by first | decide | omega) (by first | decide | omega), w32e (x := 520 * k + 52 * y) (by first | decide | omega) (by first | decide | omega), w32e (by first | decide | omega) (by first | decide | omega), if_pos (by first | decide | omega), if_pos (by first | decide | omega)]
    rfl
theorem x_arrivedIn (hW : GW S.2) (k y w : Int) (hk : 0 ≤ k ∧ k < 6) (hy : y < 10) (hw : 0 ≤ w ∧ w < 52) : ev (WK L xs) (d + 2) 181 [vr 54, vi k, vi y, vi w] S = some (cme S.2 k y w, S) := by
  rw [q_181]
  simp only [x_isTax, x_isYear, x_isWeek, bR, bi_0]
  unfold cme
  rw [if_neg (fun z => z hk)]
  by_cases h : 0 ≤ y
  · rw [if_neg (by first | decide | omega), if_neg (fun z => z hw), x_placeOf k y w hk ⟨h, hy⟩ hw, bR, if_pos (by first | decide | omega), if_pos h, (hW.1 (520 * k + 52 * y + w).toNat (by first | decide | omega)).1]
    rfl
  · rw [if_pos (by first | decide | omega), if_neg h]
theorem o_came (H : Inv S) (k y w : Int) : Ok L xs 39 281 [vi k, vi y, vi w] S := by
  by_cases hc : (0 ≤ k ∧ k < 6) ∧ (0 ≤ y ∧ y < 10) ∧ (0 ≤ w ∧ w < 52)
  · refine Ok.same (r := cme S.2 k y w) H ?_ ?_
    · rw [q_39]
      simp only [x_isTax, x_isYear, x_isWeek, x_arrivedIn H.gw k y w hc.1 hc.2.1.2 hc.2.2, bR, bi_0]
      ((repeat' split) <;> first | rfl | (exfalso; omega))
    · rw [q_281]
      simp only [m_lies, m_cameIn k y w hc.1 hc.2.1.2 hc.2.2, bR, bi_0]
      ((repeat' split) <;> first | rfl | (exfalso; omega))
  · refine Ok.same (r := -1) H ?_ ?_
    · rw [q_39]
      simp only [x_isTax, x_isYear, x_isWeek, bR, bi_0]
      by_cases h1 : 0 ≤ k ∧ k < 6
      · rw [if_neg (fun z => z h1)]
        by_cases h2 : 0 ≤ y ∧ y < 10
        · rw [if_neg (fun z => z h2), if_pos (fun z => hc ⟨h1, h2, z⟩)]
        · rw [if_pos h2]
      · rw [if_pos h1]
    · rw [q_281]
      simp only [m_lies, bR, bi_0]
      by_cases h1 : 0 ≤ k ∧ k < 6
      · rw [if_neg (by first | decide | omega)]
        by_cases h2 : 0 ≤ y ∧ y < 10
        · rw [if_neg (by first | decide | omega), if_pos (by first | decide | omega)]
        · rw [if_pos (by first | decide | omega)]
      · rw [if_pos (by first | decide | omega)]
end
