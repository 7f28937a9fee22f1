/-! what is left: the class's side -/
section
variable {L : Nat} {xs : Nat → Int} {d : Nat} {S T U S' : AH}
theorem x_paidUn (H : Inv S) {v : Nat} (hv : (v : Int) < S.2 72 40) (h1 : S.2 97 v = 1) (y : Int) : ev (WK L xs) (d + 4) 20 [vr 15, vr (auA S v), vi y] S = some (pud S.2 (S.2 102 v) y (S.2 98 v), S) := by
  have gk := H.gk
  have gv := H.gv
  have gp := H.gp
  obtain ⟨hn, hn3⟩ := gk.1.nC
  obtain ⟨a1, a2, a3, a4, a5, a6, a7, a8, a9, -⟩ := gv.2.2.2.1 v hv
  obtain ⟨-, r2, -⟩ := gv.1.2.1 v hv
  rw [if_pos h1] at a8
  have key : ∀ (m c : Nat), c + m = nClaims S.2 → LQ (WK L xs) (ev (WK L xs) (d + 3)) 20 5 [some (vr 15), some (vr (auA S v)), some (vi y), some (vl (sm (fun c => if pin S.2 c y = true ∧ cby S.2 c = S.2 102 v ∧ uN S.2 (S.2 109 c) (S.2 98 v) = true then S.2 111 c else 0) c)), none, some (vi (c : Int)), none] [] S = some (pud S.2 (S.2 102 v) y (S.2 98 v), S) := by
    intro m
    induction m with
    | zero =>
      intro c hc
      rw [q_20_5, gk.2.1, hn, if_neg (by first | decide | omega), show c = nClaims S.2 by omega]
      rfl
    | succ m ih =>
      intro c hc
      have hcl : (c : Int) < S.2 72 52 := by omega
      have e1 : (c : Int) + 1 = ((c + 1 : Nat) : Int) := by omega
      have hi2 := ih (c + 1) (by first | decide | omega)
      have hb := smC_bd gk.1 (P := fun c => pin S.2 c y = true ∧ cby S.2 c = S.2 102 v ∧ uN S.2 (S.2 109 c) (S.2 98 v) = true) (n := c + 1) (by first | decide | omega)
      have hst := sm_su (fun c => if pin S.2 c y = true ∧ cby S.2 c = S.2 102 v ∧ uN S.2 (S.2 109 c) (S.2 98 v) = true then S.2 111 c else 0) c
      obtain ⟨b1, b2, b3, b4, b5, b6, b7, b8, b9, b10, b11, -⟩ := gk.2.2.2.2.1 c hcl
      have hch := (gk.1.2.2.2.1 c hcl).2.1
      have h5 := b1.1
      rw [hst] at hi2 hb
      rw [q_20_5, gk.2.1, hn, if_pos (by first | decide | omega), x_cl gk hcl, bR, Int.toNat_natCast, if_neg (by first | decide | omega), g14 b1, k12 b1, k11 a1, rdvD h5, rdvD a1.1, b11, a8, w32e (by first | decide | omega) (by first | decide | omega), e1]
      by_cases h2 : cby S.2 c = S.2 102 v
      · rw [if_pos h2, k12a b1, x_paidIn b1, bR, b9]
        simp only [bi_0]
        by_cases h3 : pin S.2 c y = true
        · have h3' : S.2 115 c ≠ -1 ∧ yr (S.2 115 c) = y := by unfold pin at h3; exact of_decide_eq_true h3
          rw [if_neg (fun z => z h3'), k12 b1, k11 a1, rdvD h5, rdvD a1.1, b3, a4, x_isUnder gp, bR]
          simp only [bi_0]
          by_cases h4 : uN S.2 (S.2 109 c) (S.2 98 v) = true
          · rw [if_pos (show pin S.2 c y = true ∧ cby S.2 c = S.2 102 v ∧ uN S.2 (S.2 109 c) (S.2 98 v) = true from ⟨h3, h2, h4⟩)] at hi2 hb
            rw [if_neg (fun z => z ⟨hch, r2, h4⟩), k12 b1, rdvD h5, b5, w64e (by first | decide | omega) (by first | decide | omega)]
            exact hi2
          · rw [if_neg (show ¬ (pin S.2 c y = true ∧ cby S.2 c = S.2 102 v ∧ uN S.2 (S.2 109 c) (S.2 98 v) = true) from fun z => h4 z.2.2), Int.add_zero] at hi2
            rw [if_pos (fun z => h4 z.2.2)]
            exact hi2
        · have h3' : ¬ (S.2 115 c ≠ -1 ∧ yr (S.2 115 c) = y) := fun z => h3 (by unfold pin; exact decide_eq_true z)
          rw [if_neg (show ¬ (pin S.2 c y = true ∧ cby S.2 c = S.2 102 v ∧ uN S.2 (S.2 109 c) (S.2 98 v) = true) from fun z => h3 z.1), Int.add_zero] at hi2
          rw [if_pos h3']
          exact hi2
      · rw [if_neg (show ¬ (pin S.2 c y = true ∧ cby S.2 c = S.2 102 v ∧ uN S.2 (S.2 109 c) (S.2 98 v) = true) from fun z => h2 z.2.1), Int.add_zero] at hi2
        rw [if_neg h2]
        exact hi2
  rw [q_20]
  exact key (nClaims S.2) 0 (by first | decide | omega)
theorem x_isCon (gv : GV S) (p : Int) : ev (WK L xs) (d + 1) 172 [vr 36, vi p] S = some (bi (0 ≤ p ∧ p < S.2 72 70), S) := by
  rw [q_172, gv.2.2.1, rng]
theorem x_boundBy (gv : GV S) (gk : GK S) {k : Nat} (hk : (k : Int) < S.2 72 70) {y : Int} (hy : 0 ≤ y ∧ y < 10) : ev (WK L xs) (d + 2) 171 [vr 36, vi (k : Int), vi y] S = some (bnd S.2 k y, S) := by
  have hkn := gv.1.2.2.2.1
  obtain ⟨-, ⟨s1, s2⟩, -⟩ := gv.1.2.2.2.2 k hk
  obtain ⟨c1, c2, c3, c4⟩ := gv.2.2.2.2.2.1 k hk
  obtain ⟨n, hn⟩ := Int.eq_ofNat_of_zero_le hy.1
  subst hn
  have hp := gv.2.2.2.2.2.2 k n (by first | decide | omega) (by first | decide | omega)
  have hb := smC_bd gk.1 (P := fun c => pin S.2 c n = true ∧ S.2 112 c = k) (n := nClaims S.2) (Nat.le_refl _)
  have hb2 : 0 ≤ pct S.2 k n ∧ pct S.2 k n ≤ 300000000000 := hb
  have hq : (0 : Int) ≤ (k : Int) ∧ (k : Int) < 20 := by omega
  rw [q_171, x_isCon gv, bR]
  simp only [bi_0]
  rw [if_neg (fun z => z ⟨by omega, hk⟩), x_isYear, bR]
  simp only [bi_0]
  rw [if_neg (fun z => z hy), w32e (x := (k : Int) * 10) (by first | decide | omega) (by first | decide | omega), w32e (by first | decide | omega) (by first | decide | omega), if_pos (show (0 : Int) ≤ (k : Int) * 10 + (n : Int) ∧ (k : Int) * 10 + (n : Int) < 200 by omega)]
  simp only [if_pos hq, Int.toNat_natCast]
  rw [show ((k : Int) * 10 + (n : Int)).toNat = k * 10 + n by omega, hp, c2, c3, c4]
  unfold bnd
  by_cases h1 : (n : Int) < S.2 126 k
  · rw [if_pos h1, if_neg (by first | decide | omega)]
  · rw [if_neg h1]
    by_cases h2 : S.2 127 k < n
    · rw [if_pos h2, if_neg (by first | decide | omega)]
    · rw [if_neg h2, if_pos (by first | decide | omega), w64e (by first | decide | omega) (by first | decide | omega)]
theorem x_boundOf (gv : GV S) (gk : GK S) (v : Int) {y : Int} (hy : 0 ≤ y ∧ y < 10) : ev (WK L xs) (d + 3) 170 [vr 36, vi v, vi y] S = some (w64 (bns S.2 v y), S) := by
  have hkn := gv.1.2.2.2.1
  have key : ∀ (m k : Nat), k + m = (S.2 72 70).toNat → LQ (WK L xs) (ev (WK L xs) (d + 2)) 170 5 [some (vr 36), some (vi v), some (vi y), some (vl (w64 (sm (bnf S.2 v y) k))), none, some (vi (k : Int))] [] S = some (w64 (bns S.2 v y), S) := by
    intro m
    induction m with
    | zero =>
      intro k hk
      rw [q_170_5, gv.2.2.1, if_neg (by first | decide | omega), show k = (S.2 72 70).toNat by omega]
      rfl
    | succ m ih =>
      intro k hk
      have e1 : (k : Int) + 1 = ((k + 1 : Nat) : Int) := by omega
      have hi2 := ih (k + 1) (by first | decide | omega)
      obtain ⟨c1, -⟩ := gv.2.2.2.2.2.1 k (by first | decide | omega)
      rw [sm_su (bnf S.2 v y) k] at hi2
      rw [q_170_5, gv.2.2.1, if_pos (by first | decide | omega), if_pos (by first | decide | omega), Int.toNat_natCast, c1, w32e (x := (k : Int) + 1) (by first | decide | omega) (by first | decide | omega), e1]
      by_cases h : S.2 124 k = v
      · have : bnf S.2 v y k = bnd S.2 k y := by unfold bnf; rw [if_pos h]
        rw [this] at hi2
        rw [if_pos h, x_boundBy gv gk (by first | decide | omega) hy, bR, w64_al]
        exact hi2
      · have : bnf S.2 v y k = 0 := by unfold bnf; rw [if_neg h]
        rw [this, Int.add_zero] at hi2
        rw [if_neg h]
        exact hi2
  rw [q_170]
  have := key (S.2 72 70).toNat 0 (by first | decide | omega)
  exact this
theorem k11b {o : Nat} (h : isO S o 11 14) (r : Rs) : gd (Nat.beq (shp (WK L xs) S o).1 11 && Nat.ble 2 8) r = r := by
  rw [shpD h.1, h.2.2]
  rfl
theorem x_spentIn (gv : GV S) {v : Nat} (hv : (v : Int) < S.2 72 40) (h1 : S.2 97 v ≠ 1) {y : Int} (hy : 0 ≤ y ∧ y < 10) : ev (WK L xs) (d + 2) 71 [vr (auA S v), vi y] S = some (pby S.2 v y, S) := by
  obtain ⟨a1, a2, a3, a4, a5, a6, a7, a8, a9, a10, a11, a12, a13, a14, a15, a16⟩ := gv.2.2.2.1 v hv
  obtain ⟨n, hn⟩ := Int.eq_ofNat_of_zero_le hy.1
  subst hn
  have e13 : (S.2 (auA S v) 13).toNat = spA S v := rfl
  rw [q_71, x_isYear, bR]
  simp only [bi_0]
  rw [if_neg (fun z => z hy), k11 a1, rdvD a1.1, e13, shpD a2.1, a2.2.2, rdvD a2.1, Int.toNat_natCast, if_pos (show (0 : Int) ≤ (n : Int) ∧ (n : Int) < ((3, 10) : Nat × Nat).2 by show (0 : Int) ≤ (n : Int) ∧ (n : Int) < ((10 : Nat) : Int); omega), (a16 h1 n (by first | decide | omega)).1]
  rfl
theorem x_leftOf (H : Inv S) {v : Nat} (hv : (v : Int) < S.2 72 40) {y : Int} (hy : 0 ≤ y ∧ y < 10) : ev (WK L xs) (d + 5) 19 [vr 15, vi (v : Int), vr (auA S v), vi y] S = some (lft S.2 v y, S) := by
  have gv := H.gv
  obtain ⟨a1, a2, a3, a4, a5, a6, a7, a8, a9, a10, a11, a12, a13, a14, a15, a16⟩ := gv.2.2.2.1 v hv
  have h5 := a1.1
  rw [q_19]
  simp only [k11 a1, k11b a1, rdvD h5, a3, a5, a9, a13, a14]
  unfold lft
  by_cases h1 : S.2 97 v = 1
  · rw [if_pos h1, if_pos h1, x_paidUn H hv h1, bR]
  · rw [if_neg h1, if_neg h1, if_neg h1]
    by_cases h2 : S.2 102 v = -1
    · rw [if_pos h2, if_neg (fun z => z h2), x_spentIn gv hv h1 hy, bR, x_boundOf gv H.gk _ hy, bR, w64_sr, w64_ar, w64_sl, Int.sub_sub (w64 (S.2 99 v + (S.2 106 v - S.2 107 v))), w64_sl]
      congr 2
      congr 1
      omega
    · rw [if_neg h2, if_pos h2]
theorem x_isOf (gv : GV S) {v : Nat} (hv : (v : Int) < S.2 72 40) (y : Int) : ev (WK L xs) (d + 2) 174 [vr 36, vr (auA S v), vi y] S = some (bi (ofY S.2 v y = true), S) := by
  obtain ⟨a1, a2, a3, a4, a5, a6, a7, a8, a9, a10, a11, a12, a13, a14, a15, a16⟩ := gv.2.2.2.1 v hv
  obtain ⟨r1, r2, r3, r4, r5, r6, r7, r8⟩ := gv.1.2.1 v hv
  have h5 := a1.1
  have k1 : LQ (WK L xs) (ev (WK L xs) (d + 1)) 174 38 [none, some (vr (auA S v)), some (vi y), none, none] [vi 1] S = some (bi (S.2 100 v ≤ y), S) := by
    rw [q_174_38, if_neg (by decide), k11 a1, rdvD h5, a6]
    by_cases h4 : y < S.2 100 v
    · rw [if_pos h4, bi_F (by first | decide | omega)]
    · rw [if_neg h4, bi_T (by first | decide | omega)]
  have k0 : LQ (WK L xs) (ev (WK L xs) (d + 1)) 174 38 [none, some (vr (auA S v)), some (vi y), none, none] [vi 0] S = some (bi (y = S.2 100 v), S) := by
    rw [q_174_38, if_pos rfl, k11 a1, rdvD h5, a6, ite_bi]
  rw [q_174, k1, k0]
  simp only [k11 a1, rdvD h5, a3, a8]
  unfold ofY
  by_cases h1 : S.2 97 v = 1
  · obtain ⟨o1, o2, o3, o4⟩ := r6 h1
    obtain ⟨w, hw⟩ := Int.eq_ofNat_of_zero_le o1
    have hwl : (w : Int) < S.2 72 40 := by omega
    obtain ⟨b1, b2, b3, -⟩ := gv.2.2.2.1 w hwl
    have h6 := b1.1
    simp only [if_pos h1]
    rw [hw, x_au gv hwl, bR, Int.toNat_natCast, Int.toNat_natCast, if_neg (by first | decide | omega), g14a b1, k11 b1, rdvD h6, b3, k1, k0]
    by_cases h3 : S.2 97 w = 3
    · rw [if_pos h3, if_pos h3]
      congr 2
      exact bi_iff decide_eq_true_iff.symm
    · rw [if_neg h3, if_neg h3]
      congr 2
      exact bi_iff decide_eq_true_iff.symm
  · simp only [if_neg h1]
    rw [if_neg (by first | decide | omega), g14a a1]
    by_cases h3 : S.2 97 v = 3
    · rw [if_pos h3, if_pos h3]
      congr 2
      exact bi_iff decide_eq_true_iff.symm
    · rw [if_neg h3, if_neg h3]
      congr 2
      exact bi_iff decide_eq_true_iff.symm
theorem o_left (H : Inv S) (p q : Int) : Ok L xs 24 244 [vi p, vi q] S := by
  have gv := H.gv
  by_cases hp : 0 ≤ p ∧ p < S.2 72 40
  · obtain ⟨v, hv⟩ := Int.eq_ofNat_of_zero_le hp.1
    subst hv
    obtain ⟨a1, -⟩ := gv.2.2.2.1 v hp.2
    have h5 := a1.1
    by_cases hq : 0 ≤ q ∧ q < 10
    · by_cases ho : ofY S.2 v q = true
      · refine Ok.same (r := lft S.2 v q) H ?_ ?_
        · rw [q_24, x_au gv hp.2, bR, Int.toNat_natCast, if_neg (by first | decide | omega), g14a a1, x_isYear, bR]
          simp only [bi_0]
          rw [if_neg (fun z => z hq), x_isOf gv hp.2, bR]
          simp only [bi_0]
          rw [if_neg (fun z => z ho), x_leftOf H hp.2 hq, bR]
        · rw [q_244, m_isAu gv.1, bR]
          simp only [bi_0]
          rw [if_neg (fun z => z hp), m_lies, bR]
          simp only [bi_0]
          rw [if_neg (by first | decide | omega), m_isOf gv.1 hp.2, bR]
          simp only [bi_0]
          rw [if_neg (fun z => z ho), m_leftOf H.gk.1 gv.1 H.gp.1 hp.2, bR]
      · refine Ok.same (r := -1000000000000) H ?_ ?_
        · rw [q_24, x_au gv hp.2, bR, Int.toNat_natCast, if_neg (by first | decide | omega), g14a a1, x_isYear, bR]
          simp only [bi_0]
          rw [if_neg (fun z => z hq), x_isOf gv hp.2, bR]
          simp only [bi_0]
          rw [if_pos ho]
        · rw [q_244, m_isAu gv.1, bR]
          simp only [bi_0]
          rw [if_neg (fun z => z hp), m_lies, bR]
          simp only [bi_0]
          rw [if_neg (by first | decide | omega), m_isOf gv.1 hp.2, bR]
          simp only [bi_0]
          rw [if_pos ho]
    · refine Ok.same (r := -1000000000000) H ?_ ?_
      · rw [q_24, x_au gv hp.2, bR, Int.toNat_natCast, if_neg (by first | decide | omega), g14a a1, x_isYear, bR]
        simp only [bi_0]
        rw [if_pos hq]
      · rw [q_244, m_isAu gv.1, bR]
        simp only [bi_0]
        rw [if_neg (fun z => z hp), m_lies, bR]
        simp only [bi_0]
        rw [if_pos (by first | decide | omega)]
  · refine Ok.same (r := -1000000000000) H ?_ ?_
    · rw [q_24, x_au0 gv hp, bR, if_pos (by decide)]
    · rw [q_244, m_isAu gv.1, bR]
      simp only [bi_0]
      rw [if_pos hp]
end
