/-! 40c.sign -/
section
variable {L : Nat} {xs : Nat → Int} {d : Nat} {S S' : AH} {o : Nat}
theorem o_sign (H : Inv S) (p q : Int) : Ok L xs 26 258 [vi p, vi q] S := by
  have gk := H.gk
  have gp := H.gp
  have hn := gk.n
  obtain ⟨⟨hd1, hd2⟩, ⟨hh1, hh2⟩, -, hhd⟩ := gp.1
  have ehn := gp.2.2.1
  by_cases hp : 0 ≤ p ∧ p < S.2 72 52
  · obtain ⟨c, hc⟩ := Int.eq_ofNat_of_zero_le hp.1
    subst hc
    have ho := gk.ob hp.2
    have h5 := ho.1
    obtain ⟨a1, a2, a3, a4, a5, a6, a7, a8, a9, a10, a11, a12, a13, a14, a15, a16⟩ := gk.2.2.2.2.1 c hp.2
    obtain ⟨r1, r2, r3, r4, r5, r6, r7, r8, r9, r10, r11, r12, r13⟩ := gk.1.2.2.2.1 c hp.2
    have hq : (0 : Int) ≤ (c : Int) ∧ (c : Int) < 300 := by omega
    by_cases hh : 0 ≤ q ∧ q < S.2 72 5
    · obtain ⟨w, hw⟩ := Int.eq_ofNat_of_zero_le hh.1
      subst hw
      obtain ⟨z1, z2⟩ := gp.2.2.2.2.1 w hh.2
      obtain ⟨y1, y2, y3, y4⟩ := hhd w hh.2
      have hq2 : (0 : Int) ≤ (w : Int) ∧ (w : Int) < 16 := by omega
      have hbit : iand (ishr (S.2 114 c) (w : Int)) 1 = if (S.2 114 c).toNat.testBit w then 1 else 0 := by
        have := ibit (S.2 114 c) (w : Int) r6.1 (by first | decide | omega) (by first | decide | omega) (by first | decide | omega)
        rw [Int.toNat_natCast] at this
        exact this
      have hdof : ∀ d, ev (WK L xs) (d + 2) 130 [vr 17, vi (w : Int)] S = some (S.2 75 w, S) := by
        intro d
        rw [q_130, x_isHand, bR, ehn]
        simp only [bi_0]
        rw [if_neg (fun z => z hh), if_pos hq2, Int.toNat_natCast, z1]
      by_cases hk : S.2 115 c = -1 ∧ S.2 108 c ≠ w ∧ (S.2 114 c).toNat.testBit w = false ∧ uN S.2 (S.2 109 c) (S.2 75 w) = true
      · obtain ⟨k1, k2, k3, k4⟩ := hk
        obtain ⟨s, hs⟩ := Int.eq_ofNat_of_zero_le r6.1
        have hior : ior (S.2 114 c) (ishl 1 (w : Int)) = ((s ||| 2 ^ w : Nat) : Int) := by
          rw [hs, ishl_n w (by first | decide | omega), ior_n s (2 ^ w) (by first | decide | omega) (Nat.lt_of_lt_of_le (Nat.pow_lt_pow_right (by decide) (show w < 16 by omega)) (by decide))]
        have hlt : s ||| 2 ^ w < 65536 := Nat.or_lt_two_pow (n := 16) (by first | decide | omega) (Nat.pow_lt_pow_right (by decide) (by first | decide | omega))
        refine ⟨1, wr S (clA S c) 6 ((s ||| 2 ^ w : Nat) : Int), wr (wr S (clA S c) 6 ((s ||| 2 ^ w : Nat) : Int)) 114 c ((s ||| 2 ^ w : Nat) : Int), ?_, ?_, ?_, Gw.of rfl⟩
        · rw [q_26, x_cl gk hp.2, bR, Int.toNat_natCast, if_neg (by first | decide | omega), g14 ho, k12a ho, x_isPaid ho, bR]
          simp only [bi_0]
          rw [a9, if_pos (fun z => z k1), x_isHand, bR, ehn]
          simp only [bi_0]
          rw [if_neg (fun z => z hh), k12 ho, rdvD h5, a2, if_neg k2, k12 ho, rdvD h5, a8, hbit, k3, if_pos (by rfl), k12 ho, hdof, bR, rdvD h5, a3, x_isUnder gp, bR]
          simp only [bi_0]
          rw [if_neg (fun z => z ⟨r2, ⟨y1, y2⟩, k4⟩), k12 ho, k12w ho, rdvD h5, a8, hior]
        · have e1 : ∀ a, a < 151 → (wr S (clA S c) 6 ((s ||| 2 ^ w : Nat) : Int)).2 a = S.2 a := fun a ha => wr_c (by first | decide | omega)
          have hR' : RK (wr S (clA S c) 6 ((s ||| 2 ^ w : Nat) : Int)).2 := gk.1.fr (fun a ha => e1 a (by first | decide | omega)) (fun k _ => by rw [e1 72 (by first | decide | omega)]) (by unfold HM; rw [e1 72 (by first | decide | omega)]; omega)
          have hP' : GP (wr S (clA S c) 6 ((s ||| 2 ^ w : Nat) : Int)).2 := gp.fr (by rw [e1 72 (by first | decide | omega)]) (by rw [e1 72 (by first | decide | omega)]) (fun a ha => e1 a (by first | decide | omega))
          have huN : uN (wr S (clA S c) 6 ((s ||| 2 ^ w : Nat) : Int)).2 = uN S.2 := by
            funext x y
            unfold uN
            rw [e1 74 (by first | decide | omega)]
          rw [q_258, m_isClaim hR', bR, m_isHand hP'.1, bR]
          simp only [bi_0, e1 72 (by first | decide | omega), e1 108 (by first | decide | omega), e1 109 (by first | decide | omega), e1 114 (by first | decide | omega), e1 115 (by first | decide | omega), e1 75 (by first | decide | omega), Int.toNat_natCast]
          rw [if_neg (fun z => z hp), if_neg (fun z => z hh), if_pos hq, if_neg k2, if_pos hq, hbit, k3, if_neg (by decide), if_pos hq, if_pos hq2, m_isUnder hP'.1 _ _ r2.1 (by rw [e1 72 (by first | decide | omega)]; exact r2.2) y1, bR, huN]
          simp only [bi_0, e1 114 (by first | decide | omega), e1 115 (by first | decide | omega)]
          rw [if_neg (fun z => z k4), if_pos hq, if_pos k1, if_pos hq, if_pos hq, hior]
        · refine H.cgk rfl (fun a q1 q2 => ?_) (fun a q1 q2 q3 q4 q5 q6 q7 q8 q9 => ?_) (fun k hk => ?_) ?_ ?_
          · rw [wr_c (by first | decide | omega), wr_c (q2 c hp.2)]
          · rw [wr_c q7, wr_c (by first | decide | omega)]
          · rw [wr_c (by decide), wr_c (by first | decide | omega)]
          · exact gp.fr (by rw [wr_c (by decide), wr_c (by first | decide | omega)]) (by rw [wr_c (by decide), wr_c (by first | decide | omega)]) (fun a ha => by rw [wr_c (by first | decide | omega), wr_c (by first | decide | omega)])
          · have e2 : ∀ a, a < 151 → a ≠ 114 → (wr (wr S (clA S c) 6 ((s ||| 2 ^ w : Nat) : Int)) 114 c ((s ||| 2 ^ w : Nat) : Int)).2 a = S.2 a := fun a q1 q2 => by rw [wr_c q2, wr_c (by first | decide | omega)]
            have e3 : ∀ j, (wr (wr S (clA S c) 6 ((s ||| 2 ^ w : Nat) : Int)) 114 c ((s ||| 2 ^ w : Nat) : Int)).2 114 j = if j = c then ((s ||| 2 ^ w : Nat) : Int) else S.2 114 j := fun j => by rw [wr_f, wr_c (show 114 ≠ clA S c by omega)]
            have e4 : ∀ a, 151 ≤ a → a ≠ clA S c → (wr (wr S (clA S c) 6 ((s ||| 2 ^ w : Nat) : Int)) 114 c ((s ||| 2 ^ w : Nat) : Int)).2 a = S.2 a := fun a q1 q2 => by rw [wr_c (by first | decide | omega), wr_c q2]
            have e5 : ∀ k, (wr (wr S (clA S c) 6 ((s ||| 2 ^ w : Nat) : Int)) 114 c ((s ||| 2 ^ w : Nat) : Int)).2 (clA S c) k = if k = 6 then ((s ||| 2 ^ w : Nat) : Int) else S.2 (clA S c) k := fun k => by rw [wr_c (show clA S c ≠ 114 by omega), wr_f]
            generalize hT : wr (wr S (clA S c) 6 ((s ||| 2 ^ w : Nat) : Int)) 114 c ((s ||| 2 ^ w : Nat) : Int) = T at e2 e3 e4 e5 ⊢
            have hT1 : T.1 = S.1 := by rw [← hT]; rfl
            obtain ⟨h1, h2, h3, h4, h6, h7, h8, h9, h10, h11, h12⟩ := gk
            have ecb : cby T.2 = cby S.2 := cby_fr (e2 116 (by first | decide | omega) (by first | decide | omega)) (e2 97 (by first | decide | omega) (by first | decide | omega)) (e2 102 (by first | decide | omega) (by first | decide | omega))
            have ecl : ∀ e, clA T e = clA S e := fun e => by unfold clA; rw [e2 44 (by first | decide | omega) (by first | decide | omega)]
            unfold GK nClaims
            rw [e2 72 (by first | decide | omega) (by first | decide | omega), e2 43 (by first | decide | omega) (by first | decide | omega), e2 45 (by first | decide | omega) (by first | decide | omega), e2 46 (by first | decide | omega) (by first | decide | omega), e2 47 (by first | decide | omega) (by first | decide | omega), e2 48 (by first | decide | omega) (by first | decide | omega), e2 49 (by first | decide | omega) (by first | decide | omega), e2 111 (by first | decide | omega) (by first | decide | omega), e2 115 (by first | decide | omega) (by first | decide | omega), e2 117 (by first | decide | omega) (by first | decide | omega), e2 146 (by first | decide | omega) (by first | decide | omega), e2 147 (by first | decide | omega) (by first | decide | omega), e2 148 (by first | decide | omega) (by first | decide | omega), e2 149 (by first | decide | omega) (by first | decide | omega)]
            refine ⟨?_, h2, h3, h4, fun e he => ?_, fun e f q1 q2 z => h7 e f q1 q2 (by rw [← ecl, ← ecl]; exact z), h8, h9, h10, h11, h12⟩
            · obtain ⟨u1, u2, u3, u4, u5, u6⟩ := h1
              unfold RK
              rw [e2 72 (by first | decide | omega) (by first | decide | omega), e2 97 (by first | decide | omega) (by first | decide | omega), e2 108 (by first | decide | omega) (by first | decide | omega), e2 109 (by first | decide | omega) (by first | decide | omega), e2 110 (by first | decide | omega) (by first | decide | omega), e2 111 (by first | decide | omega) (by first | decide | omega), e2 112 (by first | decide | omega) (by first | decide | omega), e2 113 (by first | decide | omega) (by first | decide | omega), e2 115 (by first | decide | omega) (by first | decide | omega), e2 116 (by first | decide | omega) (by first | decide | omega), e2 117 (by first | decide | omega) (by first | decide | omega), e2 118 (by first | decide | omega) (by first | decide | omega), e2 119 (by first | decide | omega) (by first | decide | omega), e2 120 (by first | decide | omega) (by first | decide | omega), e2 121 (by first | decide | omega) (by first | decide | omega), e2 122 (by first | decide | omega) (by first | decide | omega), e2 123 (by first | decide | omega) (by first | decide | omega), e2 147 (by first | decide | omega) (by first | decide | omega), e2 148 (by first | decide | omega) (by first | decide | omega)]
              refine ⟨u1, u2, u3, fun e he => ?_, fun e q1 q2 => ?_, u6⟩
              · obtain ⟨b1, b2, b3, b4, b5, b6, b7⟩ := u4 e he
                refine ⟨b1, b2, b3, b4, b5, ?_, b7⟩
                rw [e3]
                by_cases hec : e = c
                · rw [if_pos hec]
                  omega
                · rw [if_neg hec]
                  exact b6
              · rw [e3, if_neg (by first | decide | omega)]
                exact u5 e q1 q2
            · by_cases hec : e = c
              · subst hec
                unfold AK
                rw [ecl, ecb, e2 108 (by first | decide | omega) (by first | decide | omega), e2 109 (by first | decide | omega) (by first | decide | omega), e2 110 (by first | decide | omega) (by first | decide | omega), e2 111 (by first | decide | omega) (by first | decide | omega), e2 112 (by first | decide | omega) (by first | decide | omega), e2 113 (by first | decide | omega) (by first | decide | omega), e2 115 (by first | decide | omega) (by first | decide | omega), e2 116 (by first | decide | omega) (by first | decide | omega), e2 118 (by first | decide | omega) (by first | decide | omega), e2 119 (by first | decide | omega) (by first | decide | omega), e2 120 (by first | decide | omega) (by first | decide | omega), e2 121 (by first | decide | omega) (by first | decide | omega), e2 122 (by first | decide | omega) (by first | decide | omega), e2 123 (by first | decide | omega) (by first | decide | omega), e3, if_pos rfl]
                simp only [e5]
                refine ⟨?_, a2, a3, a4, a5, a6, a7, rfl, a9, a10, a11, a12, a13, a14, a15, a16⟩
                unfold isO
                rw [hT1]
                exact a1
              · have hne : clA S e ≠ clA S c := fun z => hec (h7 e c he hp.2 z)
                refine (h6 e he).re hT1 (e2 44 (by first | decide | omega) (by first | decide | omega)) (e4 _ (h6 e he).1.1 hne) (fun a q1 q2 => ?_) (by rw [ecb])
                by_cases q3 : a = 114
                · rw [q3, e3, if_neg hec]
                · rw [e2 a (by first | decide | omega) q3]
      · refine Ok.same (r := 0) H ?_ ?_
        · rw [q_26, x_cl gk hp.2, bR, Int.toNat_natCast, if_neg (by first | decide | omega), g14 ho, k12a ho, x_isPaid ho, bR]
          simp only [bi_0]
          rw [a9]
          by_cases h1 : S.2 115 c = -1
          · rw [if_pos (fun z => z h1), x_isHand, bR, ehn]
            simp only [bi_0]
            rw [if_neg (fun z => z hh), k12 ho, rdvD h5, a2]
            by_cases h2 : S.2 108 c = w
            · rw [if_pos h2]
            · rw [if_neg h2, k12 ho, rdvD h5, a8, hbit]
              cases h3 : (S.2 114 c).toNat.testBit w with
              | true => rw [if_neg (by decide)]
              | false =>
                rw [if_pos (by rfl), k12 ho, hdof, bR, rdvD h5, a3, x_isUnder gp, bR]
                simp only [bi_0]
                rw [if_pos (fun z => hk ⟨h1, h2, h3, z.2.2⟩)]
          · rw [if_neg (fun z => z h1)]
        · rw [q_258, m_isClaim gk.1, bR, m_isHand gp.1, bR]
          simp only [bi_0, Int.toNat_natCast]
          rw [if_neg (fun z => z hp), if_neg (fun z => z hh), if_pos hq]
          by_cases h2 : S.2 108 c = w
          · rw [if_pos h2]
          · rw [if_neg h2, if_pos hq, hbit]
            cases h3 : (S.2 114 c).toNat.testBit w with
            | true => rw [if_pos (by rfl)]
            | false =>
              rw [if_neg (by decide), if_pos hq, if_pos hq2, m_isUnder gp.1 _ _ r2.1 r2.2 y1, bR]
              simp only [bi_0]
              by_cases h4 : uN S.2 (S.2 109 c) (S.2 75 w) = true
              · rw [if_neg (fun z => z h4), if_pos hq, if_neg (fun z => hk ⟨z, h2, h3, h4⟩)]
              · rw [if_pos h4]
    · refine Ok.same (r := 0) H ?_ ?_
      · rw [q_26, x_cl gk hp.2, bR, Int.toNat_natCast, if_neg (by first | decide | omega), g14 ho, k12a ho, x_isPaid ho, bR]
        simp only [bi_0]
        rw [a9]
        by_cases h1 : S.2 115 c = -1
        · rw [if_pos (fun z => z h1), x_isHand, bR, ehn]
          simp only [bi_0]
          rw [if_pos hh]
        · rw [if_neg (fun z => z h1)]
      · rw [q_258, m_isClaim gk.1, bR, m_isHand gp.1, bR]
        simp only [bi_0]
        rw [if_neg (fun z => z hp), if_pos hh]
  · refine Ok.same (r := 0) H ?_ ?_
    · rw [q_26, x_cl0 gk hp, bR, if_pos (by decide)]
    · rw [q_258, m_isClaim gk.1, bR]
      simp only [bi_0]
      rw [if_pos hp]
end
