/-! cover: the call -/
section
variable {L : Nat} {xs : Nat → Int} {d : Nat} {S T U S' W : AH}
theorem o_cover (H : Inv S) (p q : Int) : Ok L xs 18 254 [vi p, vi q] S := by
  have gv := H.gv
  have gk := H.gk
  have ht := H.gt
  by_cases hp : 0 ≤ p ∧ p < S.2 72 40
  · by_cases hw : 0 ≤ q ∧ q < S.2 72 40
    · obtain ⟨v, hv⟩ := Int.eq_ofNat_of_zero_le hp.1
      subst hv
      obtain ⟨w, hw2⟩ := Int.eq_ofNat_of_zero_le hw.1
      subst hw2
      obtain ⟨a1, a2, a3, a4, a5, a6, a7, a8, a9, a10, a11, a12, a13, a14, a15, a16⟩ := gv.2.2.2.1 v hp.2
      obtain ⟨b1, b2, b3, b4, b5, b6, b7, b8, b9, b10, b11, b12, b13, b14, b15, b16⟩ := gv.2.2.2.1 w hw.2
      obtain ⟨r1, r2, r3, r4, r5, r6, r7, r8⟩ := gv.1.2.1 v hp.2
      obtain ⟨s1, s2, s3, s4, s5, s6, s7, s8⟩ := gv.1.2.1 w hw.2
      have h5 := a1.1
      have h6 := b1.1
      have hn80 := gv.1.1
      have hqv : (0 : Int) ≤ (v : Int) ∧ (v : Int) < 80 := by omega
      have hqw : (0 : Int) ≤ (w : Int) ∧ (w : Int) < 80 := by omega
      obtain ⟨y, hy⟩ := Int.eq_ofNat_of_zero_le r4.1
      have hy10 : y < 10 := by omega
      obtain ⟨N, hN⟩ := Int.eq_ofNat_of_zero_le gk.1.1.1
      generalize hP : (S.2 97 v = 4 ∧ S.2 97 w = 0 ∧ S.2 102 v = -1 ∧ S.2 101 w = -1 ∧ S.2 100 w = S.2 100 v ∧ uN S.2 (S.2 98 v) (S.2 98 w) = true ∧ ¬ lft S.2 w y < pby S.2 v y) = P
      have instP : Decidable P := Classical.propDecidable _
      -- the class
      have X18 : (¬ P → ev (WK L xs) 200 18 [vr 15, vi (v : Int), vi (w : Int)] S = some (0, S)) ∧ (P → ∃ T, ev (WK L xs) 200 18 [vr 15, vi (v : Int), vi (w : Int)] S = some (1, T) ∧ T.1 = S.1 ∧ (∀ a, a ≠ auA S v → a ≠ spA S v → a ≠ spA S w → (∀ e, e < N → a ≠ clA S e) → T.2 a = S.2 a) ∧ (∀ e, e < N → ∀ k, T.2 (clA S e) k = if k = 9 ∧ S.2 (clA S e) 9 = (v : Int) then (w : Int) else S.2 (clA S e) k) ∧
          (∀ k, T.2 (auA S v) k = if k = 9 then S.2 72 2 else if k = 8 then (w : Int) else S.2 (auA S v) k) ∧ (∀ j, T.2 (spA S v) j = if j = y then 0 else S.2 (spA S v) j) ∧ (∀ j, T.2 (spA S w) j = if j = y then S.2 (spA S w) y + S.2 (spA S v) y else S.2 (spA S w) j)) := by
        subst hP
        rw [q_18, x_au gv hp.2, bR, x_au gv hw.2, bR, Int.toNat_natCast, Int.toNat_natCast, if_neg (by first | decide | omega), g14a a1, if_neg (by first | decide | omega), g14a b1]
        simp only [k11 a1, k11 b1, rdvD h5, rdvD h6, a3, b3]
        by_cases c1 : S.2 97 v = 4
        rotate_left
        · rw [if_neg c1]
          exact ⟨fun _ => rfl, fun z => absurd z.1 c1⟩
        rw [if_pos c1]
        by_cases c2 : S.2 97 w = 0
        rotate_left
        · rw [if_neg c2]
          exact ⟨fun _ => rfl, fun z => absurd z.2.1 c2⟩
        have nk1 : ¬ S.2 97 v = 1 := by rw [c1]; decide
        have nk2 : ¬ S.2 97 w = 1 := by rw [c2]; decide
        rw [if_pos c2, a9, if_neg nk1]
        by_cases c3 : S.2 102 v = -1
        rotate_left
        · rw [if_neg c3]
          exact ⟨fun _ => rfl, fun z => absurd z.2.2.1 c3⟩
        rw [if_pos c3, b10]
        by_cases c4 : S.2 101 w = -1
        rotate_left
        · rw [if_neg c4]
          exact ⟨fun _ => rfl, fun z => absurd z.2.2.2.1 c4⟩
        rw [if_pos c4, b6, a6]
        by_cases c5 : S.2 100 w = S.2 100 v
        rotate_left
        · rw [if_neg c5]
          exact ⟨fun _ => rfl, fun z => absurd z.2.2.2.2.1 c5⟩
        rw [if_pos c5, a4, b4, x_isUnder H.gp, bR, hy]
        simp only [bi_0]
        by_cases c6 : uN S.2 (S.2 98 v) (S.2 98 w) = true
        rotate_left
        · rw [if_pos (fun z => c6 z.2.2)]
          exact ⟨fun _ => rfl, fun z => absurd z.2.2.2.2.2.1 c6⟩
        rw [if_neg (fun z => z ⟨r2, s2, c6⟩), x_leftOf H hw.2 (by first | decide | omega), bR, k11b a1, x_spentIn gv hp.2 nk1 (by first | decide | omega), bR]
        simp only [lc_lt]
        by_cases c7 : lft S.2 w y < pby S.2 v y
        · rw [if_pos c7]
          exact ⟨fun _ => rfl, fun z => absurd c7 z.2.2.2.2.2.2⟩
        have hpv : S.2 (spA S v) y = pby S.2 v y := (a16 nk1 y hy10).1
        have hpw : S.2 (spA S w) y = pby S.2 w y := (b16 nk2 y hy10).1
        have bdv : 0 ≤ pby S.2 v y ∧ pby S.2 v y ≤ 300000000000 := smC_bd gk.1 (P := fun c => pin S.2 c y = true ∧ cby S.2 c = v) (Nat.le_refl _)
        have bdw : 0 ≤ pby S.2 w y ∧ pby S.2 w y ≤ 300000000000 := smC_bd gk.1 (P := fun c => pin S.2 c y = true ∧ cby S.2 c = w) (Nat.le_refl _)
        have hvw : v ≠ w := fun z => by
          rw [z, c2] at c1
          cases c1
        have n1 := au_sp gv hp.2 hw.2
        have n2 := au_sp gv hp.2 hp.2
        have n3 : spA S v ≠ spA S w := fun z => hvw (gv.2.2.2.2.1 v w hp.2 hw.2 (Or.inr z))
        have n4 := a2.1
        have n5 := b2.1
        rw [if_neg c7, k11b a1, x_spentIn gv hp.2 nk1 (by first | decide | omega), bR, k11a b1, x_spend b1 b2 rfl hy10, bR, ← hpv, w64e (by first | decide | omega) (by first | decide | omega)]
        generalize hA : wr S (spA S w) y (S.2 (spA S w) y + S.2 (spA S v) y) = A
        have oA1 : isO A (auA S v) 11 14 := a1.eq (by rw [← hA]; rfl)
        have oA2 : isO A (spA S v) 3 10 := a2.eq (by rw [← hA]; rfl)
        have cA : ∀ a, a ≠ spA S w → A.2 a = S.2 a := fun a z => by rw [← hA, wr_c z]
        have x71 : ev (WK L xs) 199 71 [vr (auA S v), vi (y : Int)] A = some (S.2 (spA S v) y, A) := by
          have e13 : (A.2 (auA S v) 13).toNat = spA S v := by rw [cA _ n1]; rfl
          rw [q_71, x_isYear, bR]
          simp only [bi_0]
          rw [if_neg (by first | decide | omega), k11 oA1, rdvD h5, e13, shpD n4, oA2.2.2, rdvD n4, Int.toNat_natCast, if_pos (show (0 : Int) ≤ (y : Int) ∧ (y : Int) < ((3, 10) : Nat × Nat).2 by show (0 : Int) ≤ (y : Int) ∧ (y : Int) < ((10 : Nat) : Int); omega), cA _ n3]
          rfl
        rw [k11b oA1, x71, bR, k11a oA1, x_spend oA1 oA2 (by rw [cA _ n1]; rfl) hy10, bR, cA _ n3, w64_ar, show S.2 (spA S v) y + -S.2 (spA S v) y = 0 by omega, show w64 0 = 0 from rfl]
        generalize hB : wr A (spA S v) y 0 = B
        have oB : isO B (auA S v) 11 14 := oA1.eq (by rw [← hB]; rfl)
        have e1 : ∀ a, a ≠ spA S w → a ≠ spA S v → B.2 a = S.2 a := fun a z1 z2 => by rw [← hB, wr_c z2, cA a z1]
        rw [k11w oB, k11w (show isO (wr B (auA S v) 8 (w : Int)) (auA S v) 11 14 from oB), wr_c (show (15 : Nat) ≠ auA S v by omega), e1 15 (by first | decide | omega) (by first | decide | omega), ht.1]
        generalize hD : wr (wr B (auA S v) 8 (w : Int)) (auA S v) 9 (S.2 72 2) = D
        have hD1 : D.1 = S.1 := by rw [← hD, ← hB, ← hA]; rfl
        have dA : ∀ a, a ≠ auA S v → a ≠ spA S w → a ≠ spA S v → D.2 a = S.2 a := fun a z0 z1 z2 => by rw [← hD, wr_c z0, wr_c z0, e1 a z1 z2]
        have hob : ∀ e, e < N → isO S (clA S e) 12 15 := fun e he => gk.ob (by first | decide | omega)
        have lo : ∀ a, a < 151 → D.2 a = S.2 a := fun a z => dA a (by first | decide | omega) (by first | decide | omega) (by first | decide | omega)
        have dC : ∀ e, e < N → D.2 (clA S e) = S.2 (clA S e) := fun e he => dA _ (au_cl gv gk hp.2 (by first | decide | omega)).1.symm (au_cl gv gk hw.2 (by first | decide | omega)).2.symm (au_cl gv gk hp.2 (by first | decide | omega)).2.symm
        obtain ⟨T, t1, t2, t3, t4⟩ := x_rcL (L := L) (xs := xs) (d := 197) gk (B := D) (p := v) (w := w) hN (lo 43 (by decide)) (lo 44 (by decide)) N 0 D (by first | decide | omega) hD1 (fun _ _ => rfl) (fun e he k => by rw [dC e he, if_neg (by first | decide | omega)])
        refine ⟨fun z => absurd ⟨c1, c2, c3, c4, c5.trans hy, c6, by rw [hpv]; exact c7⟩ z, fun _ => ⟨T, ?_, t2, fun a z1 z2 z3 z4 => ?_, t4, fun k => ?_, fun j => ?_, fun j => ?_⟩⟩
        · rw [q_81]
          rw [show LQ (WK L xs) (ev (WK L xs) 198) 81 2 [some (vr 43), some (vi (v : Int)), some (vi (w : Int)), some (vi 0), none] [] D = some (0, T) from t1, bR]
        · rw [t3 a z4, dA a z1 z3 z2]
        · rw [t3 _ (fun e he => (au_cl gv gk hp.2 (by first | decide | omega)).1), ← hD, wr_f, wr_f, e1 _ n1 n2]
        · rw [t3 _ (fun e he => (au_cl gv gk hp.2 (by first | decide | omega)).2), ← hD, wr_c n2.symm, wr_c n2.symm, ← hB, wr_f, cA _ n3]
        · rw [t3 _ (fun e he => (au_cl gv gk hw.2 (by first | decide | omega)).2), ← hD, wr_c n1.symm, wr_c n1.symm, ← hB, wr_c n3.symm, ← hA, wr_f]
      -- the reference
      have M254 : ∀ W : AH, (∀ a, 72 ≤ a → a < 151 → W.2 a = S.2 a) → ev (WK L xs) 200 254 [vr 72, vi (v : Int), vi (w : Int)] W = if P then some (1, wr (wr W 102 v (w : Int)) 103 v (S.2 72 2)) else some (0, W) := by
        intro W hW
        obtain ⟨rk, rv, rp⟩ := H.ref (W := W) (fun a q1 q2 _ => hW a q1 q2)
        have w72 := hW 72 (by decide) (by decide)
        have hpW : (v : Int) < W.2 72 40 := by rw [w72]; exact hp.2
        have hwW : (w : Int) < W.2 72 40 := by rw [w72]; exact hw.2
        have elf : lft W.2 = lft S.2 := lft_fr (fun a ha => hW a (by first | decide | omega) (by first | decide | omega)) (by rw [w72]) (by rw [w72])
        have epb : pby W.2 = pby S.2 := pby_fr (hW _ (by decide) (by decide)) (hW _ (by decide) (by decide)) (hW _ (by decide) (by decide)) (hW _ (by decide) (by decide)) (hW _ (by decide) (by decide)) (by rw [w72])
        have eun : uN W.2 = uN S.2 := by
          funext a b
          unfold uN
          rw [hW 74 (by decide) (by decide)]
        subst hP
        rw [q_254, m_isAu rv, bR]
        simp only [bi_0]
        rw [w72, if_neg (fun z => z hp), m_isAu rv, bR]
        simp only [bi_0]
        rw [w72, if_neg (fun z => z hw)]
        simp only [if_pos hqv, if_pos hqw, Int.toNat_natCast]
        rw [hW 97 (by decide) (by decide), hW 98 (by decide) (by decide), hW 100 (by decide) (by decide), hW 101 (by decide) (by decide), hW 102 (by decide) (by decide)]
        by_cases c1 : S.2 97 v = 4
        rotate_left
        · rw [if_neg c1, if_neg (fun z => c1 z.1)]
        rw [if_pos c1]
        by_cases c3 : S.2 102 v = -1
        rotate_left
        · rw [if_neg c3, if_neg (fun z => c3 z.2.2.1)]
        rw [if_pos c3]
        by_cases c2 : S.2 97 w = 0
        rotate_left
        · rw [if_neg c2, if_neg (fun z => c2 z.2.1)]
        rw [if_pos c2]
        by_cases c4 : S.2 101 w = -1
        rotate_left
        · rw [if_neg c4, if_neg (fun z => c4 z.2.2.2.1)]
        rw [if_pos c4]
        by_cases c5 : S.2 100 w = S.2 100 v
        rotate_left
        · rw [if_neg c5, if_neg (fun z => c5 z.2.2.2.2.1)]
        rw [if_pos c5, m_isUnder rp _ _ r2.1 (by rw [w72]; exact r2.2) s2.1, bR]
        simp only [bi_0]
        rw [eun]
        by_cases c6 : uN S.2 (S.2 98 v) (S.2 98 w) = true
        rotate_left
        · rw [if_pos c6, if_neg (fun z => c6 z.2.2.2.2.2.1)]
        rw [if_neg (fun z => z c6), hW 100 (by decide) (by decide), m_leftOf rk rv rp hwW, bR, hW 100 (by decide) (by decide), m_paidBy rk rv, bR, elf, epb]
        simp only [lc_lt]
        by_cases c7 : lft S.2 w y < pby S.2 v y
        · rw [if_pos (show lft S.2 w (S.2 100 v) < pby S.2 v (S.2 100 v) by rw [hy]; exact c7), if_neg (fun z => z.2.2.2.2.2.2 c7)]
        rw [if_neg (show ¬ lft S.2 w (S.2 100 v) < pby S.2 v (S.2 100 v) by rw [hy]; exact c7), if_pos (show S.2 97 v = 4 ∧ S.2 97 w = 0 ∧ S.2 102 v = -1 ∧ S.2 101 w = -1 ∧ S.2 100 w = S.2 100 v ∧ uN S.2 (S.2 98 v) (S.2 98 w) = true ∧ ¬ lft S.2 w y < pby S.2 v y from ⟨c1, c2, c3, c4, c5, c6, c7⟩), w72]
      by_cases hPP : P
      · obtain ⟨T, t0, t1, t2, t3, t4, t5, t6⟩ := X18.2 hPP
        have hob : ∀ e, e < N → isO S (clA S e) 12 15 := fun e he => gk.ob (by first | decide | omega)
        have lo : ∀ a, a < 151 → T.2 a = S.2 a := fun a z => t2 a (by first | decide | omega) (by have := a2.1; omega) (by have := b2.1; omega) (fun e he => by have := (hob e he).1; omega)
        have m := M254 T (fun a _ z => lo a z)
        rw [if_pos hPP] at m
        refine ⟨1, T, _, t0, m, ?_, Gw.of t1⟩
        rw [← hP] at hPP
        obtain ⟨c1, c2, c3, c4, c5, c6, c7⟩ := hPP
        have n4 := a2.1
        have n5 := b2.1
        refine H.cov (y := y) hp.2 hw.2 c1 c2 c3 hy t1 (fun a z0 z1 z2 z3 z4 => ?_) (fun a z1 z2 z3 => ?_) ?_ (fun j z => ?_) (fun k z1 z2 => ?_) ?_ ?_ (fun j => ?_) (fun j => ?_) (fun c hc k => ?_)
        · rw [wr_c (by first | decide | omega), wr_c (by first | decide | omega), t2 a z1 z2 z3 (fun e he => z4 e (by first | decide | omega))]
        · rw [wr_c z3, wr_c z2, lo a z1]
        · rw [wr_c (by decide), wr_g, lo 102 (by decide)]
        · rw [wr_f, if_neg z, wr_c (by decide), lo 103 (by decide)]
        · rw [wr_c (by first | decide | omega), wr_c (by first | decide | omega), t4 k, if_neg z2, if_neg z1]
        · rw [wr_c (by first | decide | omega), wr_c (by first | decide | omega), t4 8, if_neg (by decide), if_pos rfl]
        · rw [wr_c (by first | decide | omega), wr_c (by first | decide | omega), t4 9, if_pos rfl, wr_f, if_pos rfl]
        · rw [wr_c (by first | decide | omega), wr_c (by first | decide | omega), t5 j]
        · rw [wr_c (by first | decide | omega), wr_c (by first | decide | omega), t6 j]
        · have := (gk.ob hc).1
          rw [wr_c (by first | decide | omega), wr_c (by first | decide | omega), t3 c (by first | decide | omega) k]
      · have m := M254 S (fun _ _ _ => rfl)
        rw [if_neg hPP] at m
        exact ⟨0, S, S, X18.1 hPP, m, H, Gw.rf⟩
    · refine Ok.same (r := 0) H ?_ ?_
      · obtain ⟨v, hv⟩ := Int.eq_ofNat_of_zero_le hp.1
        subst hv
        have a1 := gv.ob hp.2
        have := a1.1
        rw [q_18, x_au gv hp.2, bR, x_au0 gv hw, bR, Int.toNat_natCast, if_neg (by first | decide | omega), g14a a1, if_pos (by decide)]
      · rw [q_254, m_isAu gv.1, bR]
        simp only [bi_0]
        rw [if_neg (fun z => z hp), m_isAu gv.1, bR]
        simp only [bi_0]
        rw [if_pos hw]
  · refine Ok.same (r := 0) H ?_ ?_
    · have hx : ∃ r, ev (WK L xs) 199 168 [vr 36, vi q] S = some (r, S) := by
        by_cases hw : 0 ≤ q ∧ q < S.2 72 40
        · obtain ⟨w, hw2⟩ := Int.eq_ofNat_of_zero_le hw.1
          subst hw2
          exact ⟨_, x_au gv hw.2⟩
        · exact ⟨_, x_au0 gv hw⟩
      obtain ⟨r, hr⟩ := hx
      rw [q_18, x_au0 gv hp, bR, hr, bR, if_pos (by decide)]
    · rw [q_254, m_isAu gv.1, bR]
      simp only [bi_0]
      rw [if_pos hp]
end
