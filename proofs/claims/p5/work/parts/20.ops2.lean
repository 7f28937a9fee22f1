/-! calls: head, hand -/
theorem deq (n b : Nat) : decide (n = b) = (n == b) := by
  by_cases h : n = b <;> simp [h]
section
variable {L : Nat} {xs : Nat → Int} {d : Nat} {S : AH}
theorem o_head (H : Inv S) (p : Int) : Ok L xs 4 196 [vi p] S := by
  have hP := H.gp
  obtain ⟨hR, e1, e2, hA, hB, hC⟩ := H.gp
  obtain ⟨⟨r1, r2⟩, ⟨r3, r4⟩, r5, r6⟩ := hR
  by_cases hc : S.2 72 4 < 40 ∧ (p = -1 ∨ (0 ≤ p ∧ p < S.2 72 4))
  · obtain ⟨n, hn⟩ := Int.eq_ofNat_of_zero_le r1
    have hx : ev (WK L xs) 199 124 [vr 17, vi p] S = some (S.2 72 4, wr (wr S 18 n (lor (if 0 ≤ p ∧ p < S.2 72 4 then S.2 18 p.toNat else 0) (lshl 1 (S.2 72 4)))) 17 1 (S.2 72 4 + 1)) := by
      have hl : LQ (WK L xs) (ev (WK L xs) 198) 124 27 [some (vr 17), some (vi p)] [] S = some (S.2 72 4, wr (wr S 18 n (lor (if 0 ≤ p ∧ p < S.2 72 4 then S.2 18 p.toNat else 0) (lshl 1 (S.2 72 4)))) 17 1 (S.2 72 4 + 1)) := by
        rw [q_124_27, x_headsAbove hP]
        simp only [bR, e1]
        rw [if_pos (by first | decide | omega), wi (by first | decide | omega) (by first | decide | omega), w32e (by first | decide | omega) (by first | decide | omega), hn]
        rfl
      rw [q_124, e1, if_pos (by first | decide | omega)]
      by_cases hp : p = -1
      · rw [if_pos hp]
        exact hl
      · rw [if_neg hp, x_isHead]
        simp only [bR, bi_0, e1]
        rw [if_neg (by first | decide | omega)]
        exact hl
    generalize hS1 : wr (wr S 18 n (lor (if 0 ≤ p ∧ p < S.2 72 4 then S.2 18 p.toNat else 0) (lshl 1 (S.2 72 4)))) 17 1 (S.2 72 4 + 1) = S1 at hx
    have hRP1 : RP S1.2 := by
      rw [← hS1]
      simpa [RP, wr_c, wr_f] using H.gp.1
    have k1 : S1.2 72 4 = S.2 72 4 := by rw [← hS1]; simp [wr_c]
    refine ⟨S.2 72 4, S1, wr (wr S1 74 n p) 72 4 (S.2 72 4 + 1), ?_, ?_, ?_, Gw.of (by rw [← hS1]; rfl)⟩
    · rw [q_4, hx]
      rfl
    · have hl : LQ (WK L xs) (ev (WK L xs) 199) 196 24 [some (vr 72), some (vi p)] [] S1 = some (S.2 72 4, wr (wr S1 74 n p) 72 4 (S.2 72 4 + 1)) := by
        rw [q_196_24, k1, if_pos (by first | decide | omega), wi (by first | decide | omega) (by first | decide | omega), w32e (by first | decide | omega) (by first | decide | omega), hn]
        rfl
      rw [q_196, k1, if_neg (by first | decide | omega)]
      by_cases hp : p = -1
      · rw [if_pos hp]
        exact hl
      · rw [if_neg hp, m_isHead hRP1]
        simp only [bR, bi_0, k1]
        rw [if_neg (by first | decide | omega)]
        exact hl
    · subst hS1
      have hup := H.gp.1.up
      rw [hn] at hup
      rw [Int.toNat_natCast] at hup
      have hap : ∃ A : Nat, (if 0 ≤ p ∧ p < S.2 72 4 then S.2 18 p.toNat else 0) = (A : Int) ∧ A < 1099511627776 ∧ ∀ b : Nat, A.testBit b = (decide (0 ≤ p) && und (S.2 74) p.toNat p.toNat b) := by
        by_cases hp : 0 ≤ p ∧ p < S.2 72 4
        · obtain ⟨q1, q2, q3⟩ := hA p.toNat (by first | decide | omega)
          refine ⟨(S.2 18 p.toNat).toNat, by rw [if_pos hp]; omega, by omega, fun b => ?_⟩
          rw [q3, decide_eq_true hp.1]
          simp
        · refine ⟨0, by rw [if_neg hp]; rfl, by decide, fun b => ?_⟩
          rw [decide_eq_false (by first | decide | omega)]
          simp
      obtain ⟨A, hA1, hA2, hA3⟩ := hap
      have hval : lor (if 0 ≤ p ∧ p < S.2 72 4 then S.2 18 p.toNat else 0) (lshl 1 (S.2 72 4)) = ((A ||| 2 ^ n : Nat) : Int) := by
        have hp2 : 2 ^ n < 1099511627776 := Nat.pow_lt_pow_right (n := 40) (by decide) (by first | decide | omega)
        rw [hA1, hn, lshl_n n (by first | decide | omega), lor_n A (2 ^ n) (by first | decide | omega) (by first | decide | omega)]
      rw [hval]
      refine Inv.upd H ?_ (fun a ha => ?_) (fun k hk => ?_) ?_ ?_ ?_ ?_ ?_ ?_ ?_ ?_ ?_
      · repeat' first | exact Fr.rf | exact Fr.wr (by decide) | refine Fr.tr ?_ (Fr.wr (by decide))
      · unfold lvk at ha
        repeat rw [wr_c (by first | decide | omega)]
      · unfold lvf at hk
        rcases hk with rfl | rfl | rfl | rfl | rfl | rfl <;> simp [wr_c, wr_f]
      · simp [HM, wr_c, wr_f]
        omega
      · exact H.gt.fr (by simp [wr_c, wr_f]) (by simp [wr_c, wr_f])
      · exact H.gc.fr (by simp [wr_c, wr_f]) (by simp [wr_c, wr_f])
      · exact H.gx.fr (by simp [wr_c, wr_f]) (by simp [wr_c, wr_f])
      · exact H.gb.fr (by simp [wr_c, wr_f]) (by simp [wr_c, wr_f]) (by simp [wr_c, wr_f]) (by simp [wr_c, wr_f])
      · have hgr : ∀ i : Nat, i < n + 1 → (if i = n then p else S.2 74 i) < i := by
          intro i hi
          split
          · omega
          · exact hup i (by first | decide | omega)
        have hu1 : ∀ (i b : Nat), i < n → und (fun j => if j = n then p else S.2 74 j) i i b = und (S.2 74) i i b := fun i b hi => und_congr hup (fun j hj => if_neg (by first | decide | omega)) i i b hi
        have hfun : (wr (wr (wr (wr S 18 n ((A ||| 2 ^ n : Nat) : Int)) 17 1 (S.2 72 4 + 1)) 74 n p) 72 4 (S.2 72 4 + 1)).2 74 = fun j => if j = n then p else S.2 74 j := by
          funext j
          simp [wr_c, wr_f]
        unfold GP RP
        rw [hfun]
        simp [wr_c, wr_f]
        refine ⟨⟨by omega, by omega, fun i hi => ?_, fun i hi => ?_⟩, e2, fun i hi => ?_, fun i hi => hB i hi, fun i hi => hC i hi⟩
        · by_cases e : i = n
          · simp [e]; omega
          · simp [e]; exact r5 i (by first | decide | omega)
        · have := r6 i hi
          omega
        · by_cases e : i = n
          · simp only [e, if_true]
            have hp2 : 2 ^ n < 2 ^ 40 := Nat.pow_lt_pow_right (by decide) (by first | decide | omega)
            have hor : A ||| 2 ^ n < 2 ^ 40 := Nat.or_lt_two_pow (by first | decide | omega) hp2
            refine ⟨by omega, by omega, fun b => ?_⟩
            rw [Int.toNat_natCast, Nat.testBit_or, Nat.testBit_two_pow, hA3 b, und_step hgr (by first | decide | omega)]
            simp only [if_true]
            by_cases hp0 : 0 ≤ p
            · rw [hu1 p.toNat b (by first | decide | omega), decide_eq_true hp0]
              simp only [Bool.true_and, deq, Bool.or_comm]
            · rw [decide_eq_false hp0]
              simp only [Bool.false_and, Bool.false_or, Bool.or_false, deq]
          · simp only [e, if_false]
            obtain ⟨q1, q2, q3⟩ := hA i (by first | decide | omega)
            refine ⟨q1, q2, fun b => ?_⟩
            rw [q3, hu1 i b (by first | decide | omega)]
      · exact H.gu.fr (by simp [wr_c, wr_f]) (by simp [wr_c, wr_f]) (by simp [wr_c, wr_f]) (fun a ha => by repeat rw [wr_c (by first | decide | omega)])
      · exact H.gw.fr (by simp [wr_c, wr_f]) (by simp [wr_c, wr_f]) (by simp [wr_c, wr_f]) (by simp [wr_c, wr_f]) (fun a ha => by repeat rw [wr_c (by first | decide | omega)])
      · exact H.gn.fr (by simp [wr_c, wr_f]) (by simp [wr_c, wr_f]) (by simp [wr_c, wr_f]) (by simp [wr_c, wr_f]) (by simp [wr_c, wr_f]) (by simp [wr_c, wr_f]) (fun a ha => by repeat rw [wr_c (by first | decide | omega)])
  · refine Ok.same (r := -1) H ?_ ?_
    · rw [q_4, q_124, e1]
      by_cases h4 : S.2 72 4 < 40
      · rw [if_pos h4, if_neg (by first | decide | omega), x_isHead]
        simp only [bR, bi_0, e1]
        rw [if_pos (by first | decide | omega)]
        rfl
      · rw [if_neg h4]
        rfl
    · rw [q_196]
      by_cases h4 : S.2 72 4 < 40
      · rw [if_neg (by first | decide | omega), if_neg (by first | decide | omega), m_isHead H.gp.1]
        simp only [bR, bi_0]
        rw [if_pos (by first | decide | omega)]
      · rw [if_pos (by first | decide | omega)]
theorem o_hand (H : Inv S) (p q : Int) : Ok L xs 6 200 [vi p, vi q] S := by
  obtain ⟨hR, e1, e2, hA, hB, hC⟩ := H.gp
  obtain ⟨⟨r1, r2⟩, ⟨r3, r4⟩, r5, r6⟩ := hR
  by_cases hc : S.2 72 5 < 16 ∧ (0 ≤ p ∧ p < S.2 72 4) ∧ (1 ≤ q ∧ q ≤ 9)
  · obtain ⟨n, hn⟩ := Int.eq_ofNat_of_zero_le r3
    have hx : ev (WK L xs) 199 128 [vr 17, vi p, vi q] S = some (S.2 72 5, wr (wr (wr S 19 n p) 20 n q) 17 5 (S.2 72 5 + 1)) := by
      rw [q_128, x_isHead]
      simp only [bR, bi_0, e1, e2]
      rw [if_neg (by first | decide | omega), if_neg (by first | decide | omega), if_neg (by first | decide | omega), if_pos (by first | decide | omega), if_pos (by first | decide | omega), if_pos (by first | decide | omega), wi (by first | decide | omega) (by first | decide | omega), w32e (by first | decide | omega) (by first | decide | omega), hn]
      rfl
    generalize hS1 : wr (wr (wr S 19 n p) 20 n q) 17 5 (S.2 72 5 + 1) = S1 at hx
    have hRP1 : RP S1.2 := by
      rw [← hS1]
      simpa [RP, wr_c, wr_f] using H.gp.1
    have k1 : S1.2 72 4 = S.2 72 4 := by rw [← hS1]; simp [wr_c]
    have k2 : S1.2 72 5 = S.2 72 5 := by rw [← hS1]; simp [wr_c]
    refine ⟨S.2 72 5, S1, wr (wr (wr S1 75 n p) 76 n q) 72 5 (S.2 72 5 + 1), ?_, ?_, ?_, Gw.of (by rw [← hS1]; rfl)⟩
    · rw [q_6, hx]
      rfl
    · rw [q_200, k2, if_neg (by first | decide | omega), m_isHead hRP1]
      simp only [bR, bi_0, k1, m_lies]
      rw [if_neg (by first | decide | omega), if_neg (by first | decide | omega), k2, if_pos (by first | decide | omega), if_pos (by first | decide | omega), wi (by first | decide | omega) (by first | decide | omega), w32e (by first | decide | omega) (by first | decide | omega), hn]
      rfl
    · subst hS1
      refine Inv.upd H ?_ (fun a ha => ?_) (fun k hk => ?_) ?_ ?_ ?_ ?_ ?_ ?_ ?_ ?_ ?_
      · repeat' first | exact Fr.rf | exact Fr.wr (by decide) | refine Fr.tr ?_ (Fr.wr (by decide))
      · unfold lvk at ha
        repeat rw [wr_c (by first | decide | omega)]
      · unfold lvf at hk
        rcases hk with rfl | rfl | rfl | rfl | rfl | rfl <;> simp [wr_c, wr_f]
      · simp [HM, wr_c, wr_f]
        omega
      · exact H.gt.fr (by simp [wr_c, wr_f]) (by simp [wr_c, wr_f])
      · exact H.gc.fr (by simp [wr_c, wr_f]) (by simp [wr_c, wr_f])
      · exact H.gx.fr (by simp [wr_c, wr_f]) (by simp [wr_c, wr_f])
      · exact H.gb.fr (by simp [wr_c, wr_f]) (by simp [wr_c, wr_f]) (by simp [wr_c, wr_f]) (by simp [wr_c, wr_f])
      · unfold GP RP
        simp [wr_c, wr_f]
        refine ⟨⟨⟨r1, r2⟩, by omega, r5, fun i hi => ?_⟩, e1, hA, fun i hi => ?_, hC⟩
        · by_cases e : i = n
          · simp [e]; omega
          · simp [e]; exact r6 i (by first | decide | omega)
        · by_cases e : i = n
          · simp [e]
          · simp [e]; exact hB i (by first | decide | omega)
      · exact H.gu.fr (by simp [wr_c, wr_f]) (by simp [wr_c, wr_f]) (by simp [wr_c, wr_f]) (fun a ha => by repeat rw [wr_c (by first | decide | omega)])
      · exact H.gw.fr (by simp [wr_c, wr_f]) (by simp [wr_c, wr_f]) (by simp [wr_c, wr_f]) (by simp [wr_c, wr_f]) (fun a ha => by repeat rw [wr_c (by first | decide | omega)])
      · exact H.gn.fr (by simp [wr_c, wr_f]) (by simp [wr_c, wr_f]) (by simp [wr_c, wr_f]) (by simp [wr_c, wr_f]) (by simp [wr_c, wr_f]) (by simp [wr_c, wr_f]) (fun a ha => by repeat rw [wr_c (by first | decide | omega)])
  · refine Ok.same (r := -1) H ?_ ?_
    · rw [q_6, q_128, x_isHead]
      simp only [bR, bi_0, e1, e2]
      by_cases h1 : 0 ≤ p ∧ p < S.2 72 4
      · rw [if_neg (fun z => z h1)]
        by_cases h2 : q < 1
        · rw [if_pos h2]; rfl
        · rw [if_neg h2]
          by_cases h3 : 9 < q
          · rw [if_pos h3]; rfl
          · rw [if_neg h3, if_neg (by first | decide | omega)]; rfl
      · rw [if_pos h1]; rfl
    · rw [q_200]
      by_cases h4 : S.2 72 5 = 16
      · rw [if_pos h4]
      · rw [if_neg h4, m_isHead H.gp.1]
        simp only [bR, bi_0, m_lies]
        by_cases h1 : 0 ≤ p ∧ p < S.2 72 4
        · rw [if_neg (fun z => z h1), if_pos (by first | decide | omega)]
        · rw [if_pos h1]
end
