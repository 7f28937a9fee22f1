/-! find -/
section
variable {L : Nat} {xs : Nat → Int} {d : Nat} {S S' : AH} {o : Nat}
theorem find_inv (H : Inv S) {c n : Nat} {q w day : Int} (hcl : (c : Int) < S.2 72 52) (hn : S.2 72 102 = n) (hn1 : n < 100) (hd : S.2 115 c ≠ -1) (hq : 1 ≤ q ∧ q ≤ 1000000000) (hw : 0 ≤ w ∧ w ≤ S.2 111 c) {T : AH} (hT1 : T.1 = S.1)
    (e2 : ∀ a, a < 151 → a ≠ 43 → ¬ (47 ≤ a ∧ a ≤ 49) → a ≠ 72 → a ≠ 123 → ¬ (147 ≤ a ∧ a ≤ 149) → T.2 a = S.2 a) (e43 : ∀ k, T.2 43 k = if k = 9 then (n : Int) + 1 else S.2 43 k) (e72 : ∀ k, T.2 72 k = if k = 102 then (n : Int) + 1 else S.2 72 k)
    (e47 : ∀ f, T.2 47 f = if f = n then (c : Int) else S.2 47 f) (e48 : ∀ f, T.2 48 f = if f = n then q else S.2 48 f) (e49 : ∀ f, T.2 49 f = if f = n then day else S.2 49 f) (e147 : ∀ f, T.2 147 f = if f = n then (c : Int) else S.2 147 f) (e148 : ∀ f, T.2 148 f = if f = n then q else S.2 148 f) (e149 : ∀ f, T.2 149 f = if f = n then day else S.2 149 f)
    (e123 : ∀ j, T.2 123 j = if j = c then w else S.2 123 j) (e4 : ∀ a, 151 ≤ a → a ≠ clA S c → T.2 a = S.2 a) (e5 : ∀ k, T.2 (clA S c) k = if k = 14 then w else S.2 (clA S c) k) : Inv T := by
  have gk := H.gk
  refine H.cgk hT1 (fun a q1 q2 => e4 a q1 (q2 c hcl)) (fun a q1 q2 q3 q4 q5 q6 q7 q8 q9 => e2 a q1 q3 (by first | decide | omega) q5 (by first | decide | omega) (by first | decide | omega)) (fun k hk => by rw [e72, if_neg hk]) ?_ ?_
  · exact H.gp.fr (by rw [e72, if_neg (by decide)]) (by rw [e72, if_neg (by decide)]) (fun a ha => e2 a (by first | decide | omega) (by first | decide | omega) (by first | decide | omega) (by first | decide | omega) (by first | decide | omega) (by first | decide | omega))
  · obtain ⟨h1, h2, h3, h4, h6, h7, h8, h9, h10, h11, h12⟩ := gk
    have c' : ∀ a, a < 123 → a ≠ 43 → (a < 47 ∨ (49 < a ∧ a < 72) ∨ 72 < a) → T.2 a = S.2 a := fun a q1 q2 q3 => e2 a (by first | decide | omega) q2 (by first | decide | omega) (by first | decide | omega) (by first | decide | omega) (by first | decide | omega)
    have ecb : cby T.2 = cby S.2 := cby_fr (c' 116 (by first | decide | omega) (by first | decide | omega) (by first | decide | omega)) (c' 97 (by first | decide | omega) (by first | decide | omega) (by first | decide | omega)) (c' 102 (by first | decide | omega) (by first | decide | omega) (by first | decide | omega))
    have ecl : ∀ e, clA T e = clA S e := fun e => by unfold clA; rw [c' 44 (by first | decide | omega) (by first | decide | omega) (by first | decide | omega)]
    have k52 : T.2 72 52 = S.2 72 52 := by rw [e72, if_neg (by decide)]
    have k53 : T.2 72 53 = S.2 72 53 := by rw [e72, if_neg (by decide)]
    have k40 : T.2 72 40 = S.2 72 40 := by rw [e72, if_neg (by decide)]
    have k70 : T.2 72 70 = S.2 72 70 := by rw [e72, if_neg (by decide)]
    have k4 : T.2 72 4 = S.2 72 4 := by rw [e72, if_neg (by decide)]
    have k5 : T.2 72 5 = S.2 72 5 := by rw [e72, if_neg (by decide)]
    have k102 : T.2 72 102 = (n : Int) + 1 := by rw [e72, if_pos rfl]
    have x1 : T.2 43 1 = S.2 43 1 := by rw [e43, if_neg (by decide)]
    have x3 : T.2 43 3 = S.2 43 3 := by rw [e43, if_neg (by decide)]
    have x4 : T.2 43 4 = S.2 43 4 := by rw [e43, if_neg (by decide)]
    have x9 : T.2 43 9 = (n : Int) + 1 := by rw [e43, if_pos rfl]
    unfold GK nClaims
    rw [k52, k53, k102, x1, x3, x4, x9, c' 45 (by first | decide | omega) (by first | decide | omega) (by first | decide | omega), c' 46 (by first | decide | omega) (by first | decide | omega) (by first | decide | omega), c' 111 (by first | decide | omega) (by first | decide | omega) (by first | decide | omega), c' 115 (by first | decide | omega) (by first | decide | omega) (by first | decide | omega), c' 117 (by first | decide | omega) (by first | decide | omega) (by first | decide | omega), e2 146 (by first | decide | omega) (by first | decide | omega) (by first | decide | omega) (by first | decide | omega) (by first | decide | omega) (by first | decide | omega)]
    refine ⟨?_, h2, h3, rfl, fun e he => ?_, fun e f q1 q2 z => h7 e f q1 q2 (by rw [← ecl, ← ecl]; exact z), h8, h9, h10, h11, fun f hf => ?_⟩
    · obtain ⟨u1, u2, u3, u4, u5, u6⟩ := h1
      unfold RK
      rw [k52, k53, k102, k40, k70, k4, k5, c' 97 (by first | decide | omega) (by first | decide | omega) (by first | decide | omega), c' 108 (by first | decide | omega) (by first | decide | omega) (by first | decide | omega), c' 109 (by first | decide | omega) (by first | decide | omega) (by first | decide | omega), c' 110 (by first | decide | omega) (by first | decide | omega) (by first | decide | omega), c' 111 (by first | decide | omega) (by first | decide | omega) (by first | decide | omega), c' 112 (by first | decide | omega) (by first | decide | omega) (by first | decide | omega), c' 113 (by first | decide | omega) (by first | decide | omega) (by first | decide | omega), c' 114 (by first | decide | omega) (by first | decide | omega) (by first | decide | omega), c' 115 (by first | decide | omega) (by first | decide | omega) (by first | decide | omega), c' 116 (by first | decide | omega) (by first | decide | omega) (by first | decide | omega), c' 117 (by first | decide | omega) (by first | decide | omega) (by first | decide | omega), c' 118 (by first | decide | omega) (by first | decide | omega) (by first | decide | omega), c' 119 (by first | decide | omega) (by first | decide | omega) (by first | decide | omega), c' 120 (by first | decide | omega) (by first | decide | omega) (by first | decide | omega), c' 121 (by first | decide | omega) (by first | decide | omega) (by first | decide | omega), c' 122 (by first | decide | omega) (by first | decide | omega) (by first | decide | omega)]
      refine ⟨u1, u2, by omega, fun e he => ?_, fun e q1 q2 => ?_, fun f hf => ?_⟩
      · obtain ⟨b1, b2, b3, b4, b5, b6, b7, b8, b9, b10, b11, b12, b13⟩ := u4 e he
        refine ⟨b1, b2, b3, b4, b5, b6, b7, b8, b9, b10, b11, b12, ?_⟩
        rw [e123]
        by_cases hec : e = c
        · rw [if_pos hec, hec]
          exact hw
        · rw [if_neg hec]
          exact b13
      · rw [e123, if_neg (by first | decide | omega)]
        exact u5 e q1 q2
      · rw [e147, e148]
        by_cases hfn : f = n
        · rw [if_pos hfn, if_pos hfn, Int.toNat_natCast]
          exact ⟨⟨by omega, hcl, hd⟩, hq⟩
        · rw [if_neg hfn, if_neg hfn]
          exact u6 f (by first | decide | omega)
    · by_cases hec : e = c
      · subst hec
        obtain ⟨a1, a2, a3, a4, a5, a6, a7, a8, a9, a10, a11, a12, a13, a14, a15, a16⟩ := h6 e he
        unfold AK
        rw [ecl, ecb, c' 108 (by first | decide | omega) (by first | decide | omega) (by first | decide | omega), c' 109 (by first | decide | omega) (by first | decide | omega) (by first | decide | omega), c' 110 (by first | decide | omega) (by first | decide | omega) (by first | decide | omega), c' 111 (by first | decide | omega) (by first | decide | omega) (by first | decide | omega), c' 112 (by first | decide | omega) (by first | decide | omega) (by first | decide | omega), c' 113 (by first | decide | omega) (by first | decide | omega) (by first | decide | omega), c' 114 (by first | decide | omega) (by first | decide | omega) (by first | decide | omega), c' 115 (by first | decide | omega) (by first | decide | omega) (by first | decide | omega), c' 116 (by first | decide | omega) (by first | decide | omega) (by first | decide | omega), c' 118 (by first | decide | omega) (by first | decide | omega) (by first | decide | omega), c' 119 (by first | decide | omega) (by first | decide | omega) (by first | decide | omega), c' 120 (by first | decide | omega) (by first | decide | omega) (by first | decide | omega), c' 121 (by first | decide | omega) (by first | decide | omega) (by first | decide | omega), c' 122 (by first | decide | omega) (by first | decide | omega) (by first | decide | omega), e123, if_pos rfl]
        simp only [e5]
        refine ⟨?_, a2, a3, a4, a5, a6, a7, a8, a9, a10, a11, a12, a13, a14, a15, rfl⟩
        unfold isO
        rw [hT1]
        exact a1
      · have hne : clA S e ≠ clA S c := fun z => hec (h7 e c he hcl z)
        refine (h6 e he).re hT1 (c' 44 (by first | decide | omega) (by first | decide | omega) (by first | decide | omega)) (e4 _ (h6 e he).1.1 hne) (fun a q1 q2 => ?_) (by rw [ecb])
        by_cases q3 : a = 123
        · rw [q3, e123, if_neg hec]
        · rw [c' a (by first | decide | omega) (by first | decide | omega) (by first | decide | omega)]
    · rw [e47, e48, e49, e147, e148, e149]
      by_cases hfn : f = n
      · rw [if_pos hfn, if_pos hfn, if_pos hfn, if_pos hfn, if_pos hfn, if_pos hfn]
        exact ⟨rfl, rfl, rfl⟩
      · rw [if_neg hfn, if_neg hfn, if_neg hfn, if_neg hfn, if_neg hfn, if_neg hfn]
        exact h12 f (by first | decide | omega)
theorem o_find (H : Inv S) (p q : Int) : Ok L xs 60 308 [vi p, vi q] S := by
  have gk := H.gk
  have hn := gk.n
  have ht := H.gt.1
  have hfn := gk.1.2.2.1
  have hf2 : S.2 43 9 = S.2 72 102 := gk.2.2.2.1
  by_cases hp : 0 ≤ p ∧ p < S.2 72 52
  · obtain ⟨c, hc⟩ := Int.eq_ofNat_of_zero_le hp.1
    subst hc
    have ho := gk.ob hp.2
    have h5 := ho.1
    obtain ⟨a1, a2, a3, a4, a5, a6, a7, a8, a9, a10, a11, a12, a13, a14, a15, a16⟩ := gk.2.2.2.2.1 c hp.2
    obtain ⟨r1, r2, r3, r4, r5, r6, r7, r8, r9, r10, r11, r12, r13⟩ := gk.1.2.2.2.1 c hp.2
    have hq : (0 : Int) ≤ (c : Int) ∧ (c : Int) < 300 := by omega
    by_cases hk : S.2 72 102 < 100 ∧ S.2 115 c ≠ -1 ∧ 1 ≤ q ∧ q ≤ S.2 111 c - S.2 123 c
    · obtain ⟨k1, k2, k3, k4⟩ := hk
      obtain ⟨n, hnn⟩ := Int.eq_ofNat_of_zero_le hfn.1
      have hfr : (0 : Int) ≤ (n : Int) ∧ (n : Int) < 100 := by omega
      refine ⟨1, wr (wr (wr (wr (wr S (clA S c) 14 (S.2 123 c + q)) 47 n (c : Int)) 48 n q) 49 n (S.2 72 2)) 43 9 ((n : Int) + 1), wr (wr (wr (wr (wr (wr (wr (wr (wr (wr S (clA S c) 14 (S.2 123 c + q)) 47 n (c : Int)) 48 n q) 49 n (S.2 72 2)) 43 9 ((n : Int) + 1)) 123 c (S.2 123 c + q)) 147 n (c : Int)) 148 n q) 149 n (S.2 72 2)) 72 102 ((n : Int) + 1), ?_, ?_, ?_, Gw.of rfl⟩
      · have hcat : ev (WK L xs) 198 80 [vr 43, vi (c : Int)] S = some ((clA S c : Int), S) := x_cl gk hp.2
        rw [q_60, x_cl gk hp.2, bR, Int.toNat_natCast, if_neg (by first | decide | omega), g14 ho, k12a ho, x_isPaid ho, bR]
        simp only [bi_0, lc_gt]
        rw [a9, if_neg (fun z => z k2), if_neg (by first | decide | omega), k12 ho, k12 ho, rdvD h5, rdvD h5, a5, a16, w64e (x := S.2 111 c - S.2 123 c) (by first | decide | omega) (by first | decide | omega), if_neg (by first | decide | omega), q_90, hcat, bR, Int.toNat_natCast, if_neg (by first | decide | omega), g14 ho, hf2, hnn, if_pos (by first | decide | omega), k12 ho, k12w ho, rdvD h5, a16, w64e (x := S.2 123 c + q) (by first | decide | omega) (by first | decide | omega)]
        simp only [wr_c (show 43 ≠ clA S c by omega), hf2, hnn, Int.toNat_natCast]
        rw [if_pos hfr, if_pos hfr, if_pos hfr, bR, if_pos (Or.inr rfl), ht, w32e (by first | decide | omega) (by first | decide | omega)]
      · have e1 : ∀ a, a < 151 → a ≠ 43 → ¬ (47 ≤ a ∧ a ≤ 49) → (wr (wr (wr (wr (wr S (clA S c) 14 (S.2 123 c + q)) 47 n (c : Int)) 48 n q) 49 n (S.2 72 2)) 43 9 ((n : Int) + 1)).2 a = S.2 a := fun a q1 q2 q3 => by rw [wr_c q2, wr_c (by first | decide | omega), wr_c (by first | decide | omega), wr_c (by first | decide | omega), wr_c (by first | decide | omega)]
        have hR' : RK (wr (wr (wr (wr (wr S (clA S c) 14 (S.2 123 c + q)) 47 n (c : Int)) 48 n q) 49 n (S.2 72 2)) 43 9 ((n : Int) + 1)).2 := gk.1.fr (fun a ha => e1 a (by first | decide | omega) (by first | decide | omega) (by first | decide | omega)) (fun k _ => by rw [e1 72 (by first | decide | omega) (by first | decide | omega) (by first | decide | omega)]) (by unfold HM; rw [e1 72 (by first | decide | omega) (by first | decide | omega) (by first | decide | omega)]; omega)
        rw [q_308, e1 72 (by first | decide | omega) (by first | decide | omega) (by first | decide | omega), hnn, if_neg (by first | decide | omega), m_isClaim hR', bR]
        simp only [bi_0, e1 72 (by first | decide | omega) (by first | decide | omega) (by first | decide | omega), e1 115 (by first | decide | omega) (by first | decide | omega) (by first | decide | omega), e1 123 (by first | decide | omega) (by first | decide | omega) (by first | decide | omega), e1 111 (by first | decide | omega) (by first | decide | omega) (by first | decide | omega), Int.toNat_natCast, m_lies, bR, lc_gt, hnn]
        rw [if_neg (fun z => z hp), if_pos hq, if_neg k2, if_neg (by first | decide | omega), if_pos hq, if_pos hq, w64e (x := S.2 123 c + q) (by first | decide | omega) (by first | decide | omega), if_neg (by first | decide | omega), if_pos hq, if_pos hq, if_pos hfr, if_pos hfr, if_pos hfr, w32e (by first | decide | omega) (by first | decide | omega)]
      · refine find_inv H (c := c) (n := n) (q := q) (w := S.2 123 c + q) (day := S.2 72 2) hp.2 hnn (by first | decide | omega) k2 (by first | decide | omega) (by first | decide | omega) rfl (fun a q1 q2 q3 q4 q5 q6 => ?_) (fun k => ?_) (fun k => ?_) (fun f => ?_) (fun f => ?_) (fun f => ?_) (fun f => ?_) (fun f => ?_) (fun f => ?_) (fun f => ?_) (fun a q1 q2 => ?_) (fun k => ?_)
        · rw [wr_c q4, wr_c (by first | decide | omega), wr_c (by first | decide | omega), wr_c (by first | decide | omega), wr_c q5, wr_c q2, wr_c (by first | decide | omega), wr_c (by first | decide | omega), wr_c (by first | decide | omega), wr_c (by first | decide | omega)]
        · rw [wr_c (by decide), wr_c (by decide), wr_c (by decide), wr_c (by decide), wr_c (by decide), wr_f, wr_c (by decide), wr_c (by decide), wr_c (by decide), wr_c (by first | decide | omega)]
        · rw [wr_f, wr_c (by decide), wr_c (by decide), wr_c (by decide), wr_c (by decide), wr_c (by decide), wr_c (by decide), wr_c (by decide), wr_c (by decide), wr_c (by first | decide | omega)]
        · rw [wr_c (by decide), wr_c (by decide), wr_c (by decide), wr_c (by decide), wr_c (by decide), wr_c (by decide), wr_c (by decide), wr_c (by decide), wr_f, wr_c (by first | decide | omega)]
        · rw [wr_c (by decide), wr_c (by decide), wr_c (by decide), wr_c (by decide), wr_c (by decide), wr_c (by decide), wr_c (by decide), wr_f, wr_c (by decide), wr_c (by first | decide | omega)]
        · rw [wr_c (by decide), wr_c (by decide), wr_c (by decide), wr_c (by decide), wr_c (by decide), wr_c (by decide), wr_f, wr_c (by decide), wr_c (by decide), wr_c (by first | decide | omega)]
        · rw [wr_c (by decide), wr_c (by decide), wr_c (by decide), wr_f, wr_c (by decide), wr_c (by decide), wr_c (by decide), wr_c (by decide), wr_c (by decide), wr_c (by first | decide | omega)]
        · rw [wr_c (by decide), wr_c (by decide), wr_f, wr_c (by decide), wr_c (by decide), wr_c (by decide), wr_c (by decide), wr_c (by decide), wr_c (by decide), wr_c (by first | decide | omega)]
        · rw [wr_c (by decide), wr_f, wr_c (by decide), wr_c (by decide), wr_c (by decide), wr_c (by decide), wr_c (by decide), wr_c (by decide), wr_c (by decide), wr_c (by first | decide | omega)]
        · rw [wr_c (by decide), wr_c (by decide), wr_c (by decide), wr_c (by decide), wr_f, wr_c (by decide), wr_c (by decide), wr_c (by decide), wr_c (by decide), wr_c (by first | decide | omega)]
        · rw [wr_c (by first | decide | omega), wr_c (by first | decide | omega), wr_c (by first | decide | omega), wr_c (by first | decide | omega), wr_c (by first | decide | omega), wr_c (by first | decide | omega), wr_c (by first | decide | omega), wr_c (by first | decide | omega), wr_c (by first | decide | omega), wr_c q2]
        · rw [wr_c (by first | decide | omega), wr_c (by first | decide | omega), wr_c (by first | decide | omega), wr_c (by first | decide | omega), wr_c (by first | decide | omega), wr_c (by first | decide | omega), wr_c (by first | decide | omega), wr_c (by first | decide | omega), wr_c (by first | decide | omega), wr_f]
    · refine Ok.same (r := 0) H ?_ ?_
      · have hcat : ev (WK L xs) 198 80 [vr 43, vi (c : Int)] S = some ((clA S c : Int), S) := x_cl gk hp.2
        rw [q_60, x_cl gk hp.2, bR, Int.toNat_natCast, if_neg (by first | decide | omega), g14 ho, k12a ho, x_isPaid ho, bR]
        simp only [bi_0, lc_gt]
        rw [a9]
        by_cases h1 : S.2 115 c ≠ -1
        · rw [if_neg (fun z => z h1)]
          by_cases h2 : q < 1
          · rw [if_pos h2]
          · rw [if_neg h2, k12 ho, k12 ho, rdvD h5, rdvD h5, a5, a16, w64e (x := S.2 111 c - S.2 123 c) (by first | decide | omega) (by first | decide | omega)]
            by_cases h3 : S.2 111 c - S.2 123 c < q
            · rw [if_pos h3]
            · rw [if_neg h3, q_90, hcat, bR, Int.toNat_natCast, if_neg (by first | decide | omega), g14 ho, hf2, if_neg (by first | decide | omega), bR, if_pos (Or.inl rfl)]
        · rw [if_pos h1]
      · rw [q_308, m_isClaim gk.1]
        by_cases h0 : S.2 72 102 = 100
        · rw [if_pos h0]
        · rw [if_neg h0, bR]
          simp only [bi_0, Int.toNat_natCast, m_lies, bR, lc_gt]
          rw [if_neg (fun z => z hp), if_pos hq]
          by_cases h1 : S.2 115 c = -1
          · rw [if_pos h1]
          · rw [if_neg h1]
            by_cases h2 : 1 ≤ q ∧ q ≤ 1000000000
            · rw [if_neg (fun z => z h2), if_pos hq, if_pos hq, w64e (x := S.2 123 c + q) (by first | decide | omega) (by first | decide | omega), if_pos (by first | decide | omega)]
            · rw [if_pos h2]
  · refine Ok.same (r := 0) H ?_ ?_
    · rw [q_60, x_cl0 gk hp, bR, if_pos (by decide)]
    · rw [q_308, m_isClaim gk.1]
      by_cases h0 : S.2 72 102 = 100
      · rw [if_pos h0]
      · rw [if_neg h0, bR]
        simp only [bi_0]
        rw [if_pos hp]
end
