/-! call: ask -/
section
variable {L : Nat} {xs : Nat → Int} {d : Nat} {S : AH}
theorem o_ask (H : Inv S) (p q r f : Int) (hf : f = 0 ∨ f = 1) : Ok L xs 33 272 [vi p, vi q, vi r, vi f] S := by
  obtain ⟨hR, e1, -⟩ := H.gp
  obtain ⟨⟨u1, u2⟩, u3, u4, u5, ⟨u6, u7⟩, u8⟩ := H.gu
  by_cases hc : S.2 72 79 < 14 ∧ (0 ≤ p ∧ p < S.2 72 4) ∧ (0 ≤ q ∧ q ≤ 1000000000) ∧ (0 ≤ r ∧ r ≤ 1000000)
  · obtain ⟨n, hn⟩ := Int.eq_ofNat_of_zero_le u1
    have hn' : (S.2 72 79).toNat = n := by omega
    have hfl : ∃ F : Nat, (if f = 0 then ior (S.2 50 3) 0 else ior (S.2 50 3) (ishl 1 (S.2 50 4))) = (F : Int) ∧ F < 2 ^ (n + 1) ∧ (∀ k, k < n → F.testBit k = (S.2 50 3).toNat.testBit k) ∧ F.testBit n = decide (f = 1) := by
      obtain ⟨m, hm⟩ := Int.eq_ofNat_of_zero_le u6
      rw [hm, hn'] at u7
      have hm2 : m < 2 ^ n := by
        have : (2 : Int) ^ n = ((2 ^ n : Nat) : Int) := by simp
        omega
      have hlt : 2 ^ n < 16384 := Nat.pow_lt_pow_right (n := 14) (by decide) (by first | decide | omega)
      have hnb : m.testBit n = false := Nat.testBit_lt_two_pow hm2
      rw [hm, u3, hn]
      rcases hf with rfl | rfl
      · refine ⟨m, ?_, by rw [Nat.pow_succ]; omega, fun k _ => rfl, by rw [hnb]; rfl⟩
        rw [if_pos rfl]
        have := ior_n m 0 (by first | decide | omega) (by first | decide | omega)
        simpa using this
      · refine ⟨m ||| 2 ^ n, ?_, ?_, fun k hk => ?_, ?_⟩
        · rw [if_neg (by decide), ishl_n n (by first | decide | omega), ior_n m (2 ^ n) (by first | decide | omega) (by first | decide | omega)]
        · rw [Nat.pow_succ]
          exact Nat.or_lt_two_pow (n := n + 1) (by rw [Nat.pow_succ]; omega) (by rw [Nat.pow_succ]; omega)
        · rw [Nat.testBit_or, Nat.testBit_two_pow, decide_eq_false (by first | decide | omega), Bool.or_false]
          rfl
        · rw [Nat.testBit_or, Nat.testBit_two_pow, hnb]
          simp
    obtain ⟨F, hF1, hF2, hF3, hF4⟩ := hfl
    have hx : ev (WK L xs) 199 94 [vr 50, vi q, vi r, vi f] S = some (S.2 72 79, wr (wr (wr (wr (wr S 51 n q) 52 n r) 53 (n + 1) (sm (S.2 131) n + r)) 50 3 F) 50 4 (S.2 72 79 + 1)) := by
      have v1 := u5 n (by first | decide | omega)
      have v2 : 0 ≤ sm (S.2 131) n ∧ sm (S.2 131) n ≤ n * 1000000 := sm_bd (fun k hk => (u4 k (by first | decide | omega)).2.2.2.1)
      have e2 : w32 (S.2 72 79 + 1) = ((n + 1 : Nat) : Int) := by
        rw [w32e (by first | decide | omega) (by first | decide | omega), hn]
        rfl
      rw [q_94]
      rw [u3] at hF1 ⊢
      rw [wi (by first | decide | omega) (by first | decide | omega), e2, Int.toNat_natCast, hn', v1, w64e (by first | decide | omega) (by first | decide | omega), if_pos (by first | decide | omega), if_pos (by first | decide | omega), if_pos (by first | decide | omega), if_pos (by first | decide | omega), if_pos (by first | decide | omega)]
      rcases hf with rfl | rfl
      · rw [if_pos rfl] at hF1 ⊢
        rw [hF1, hn]
        rfl
      · rw [if_neg (by decide)] at hF1 ⊢
        rw [hF1, hn]
        rfl
    generalize hS1 : wr (wr (wr (wr (wr S 51 n q) 52 n r) 53 (n + 1) (sm (S.2 131) n + r)) 50 3 F) 50 4 (S.2 72 79 + 1) = S1 at hx
    have g1 : S1.2 72 = S.2 72 := by rw [← hS1]; simp [wr_c]
    have hR1 : RP S1.2 := by
      have : GP S1.2 := by
        rw [← hS1]
        exact H.gp.fr (by simp [wr_c]) (by simp [wr_c]) (fun a ha => by repeat rw [wr_c (by first | decide | omega)])
      exact this.1
    refine ⟨S.2 72 79, S1, wr (wr (wr (wr S1 130 n q) 131 n r) 132 n f) 72 79 (S.2 72 79 + 1), ?_, ?_, ?_, Gw.of (by rw [← hS1]; rfl)⟩
    · rw [q_33]
      simp only [x_isHead, x_isSum, bR, bi_0, e1]
      rw [if_neg (by first | decide | omega), if_neg (by first | decide | omega), if_neg (by first | decide | omega), if_neg (by first | decide | omega), hx]
      rfl
    · rw [q_272]
      simp only [m_isHead hR1, m_isSum, m_lies, bR, bi_0, g1]
      rw [wi (by first | decide | omega) (by first | decide | omega), w32e (by first | decide | omega) (by first | decide | omega), hn', if_neg (by first | decide | omega), if_neg (by first | decide | omega), if_neg (by first | decide | omega), if_neg (by first | decide | omega), if_pos (by first | decide | omega), if_pos (by first | decide | omega), if_pos (by first | decide | omega), if_pos hf]
    · subst hS1
      refine Inv.upd H ?_ (fun a ha => ?_) (fun k hk => ?_) ?_ ?_ ?_ ?_ ?_ ?_ ?_ ?_ ?_
      · repeat' first | exact Fr.rf | exact Fr.wr (by decide) | refine Fr.tr ?_ (Fr.wr (by decide))
      · unfold lvk at ha
        repeat rw [wr_c (by first | decide | omega)]
      · unfold lvf at hk
        rcases hk with rfl | rfl | rfl | rfl | rfl | rfl <;> simp [wr_c, wr_f]
      · simp [HM, wr_c, wr_f]
      · exact H.gt.fr (by simp [wr_c, wr_f]) (by simp [wr_c, wr_f])
      · exact H.gc.fr (by simp [wr_c, wr_f]) (by simp [wr_c, wr_f])
      · exact H.gx.fr (by simp [wr_c, wr_f]) (by simp [wr_c, wr_f])
      · exact H.gb.fr (by simp [wr_c, wr_f]) (by simp [wr_c, wr_f]) (by simp [wr_c, wr_f]) (by simp [wr_c, wr_f])
      · exact H.gp.fr (by simp [wr_c, wr_f]) (by simp [wr_c, wr_f]) (fun a ha => by repeat rw [wr_c (by first | decide | omega)])
      · have hw : ∀ k, k ≤ n → sm (fun j => if j = n then r else S.2 131 j) k = sm (S.2 131) k := by
          intro k hk
          apply sm_congr
          intro j hj
          rw [if_neg (by first | decide | omega)]
        have e3 : (S.2 72 79 + 1).toNat = n + 1 := by omega
        unfold GU
        simp only [wr_c (show (50 : Nat) ≠ 72 by decide), wr_c (show (50 : Nat) ≠ 132 by decide), wr_c (show (50 : Nat) ≠ 131 by decide), wr_c (show (50 : Nat) ≠ 130 by decide)]
        simp [wr_c, wr_g, e3]
        refine ⟨by omega, fun k hk => ?_, fun k hk => ?_, ?_, fun k hk => ?_⟩
        · by_cases e : k = n
          · simp [e]; omega
          · simp [e]; exact u4 k (by first | decide | omega)
        · by_cases e : k = n + 1
          · subst e
            rw [if_pos rfl]
            show _ = sm _ n + (if n = n then r else _)
            rw [hw n (Nat.le_refl _), if_pos rfl]
          · rw [if_neg e, hw k (by first | decide | omega)]
            exact u5 k (by first | decide | omega)
        · have : (2 : Int) ^ (n + 1) = ((2 ^ (n + 1) : Nat) : Int) := by simp
          omega
        · by_cases e : k = n
          · simp [e, hF4]
          · simp [e]
            rw [hF3 k (by first | decide | omega), u8 k (by first | decide | omega)]
      · exact H.gw.fr (by simp [wr_c, wr_f]) (by simp [wr_c, wr_f]) (by simp [wr_c, wr_f]) (by simp [wr_c, wr_f]) (fun a ha => by repeat rw [wr_c (by first | decide | omega)])
      · exact H.gn.fr (by simp [wr_c, wr_f]) (by simp [wr_c, wr_f]) (by simp [wr_c, wr_f]) (by simp [wr_c, wr_f]) (by simp [wr_c, wr_f]) (by simp [wr_c, wr_f]) (fun a ha => by repeat rw [wr_c (by first | decide | omega)])
  · refine Ok.same (r := -1) H ?_ ?_
    · rw [q_33]
      simp only [x_isHead, x_isSum, bR, bi_0, e1]
      by_cases h1 : 0 ≤ p ∧ p < S.2 72 4
      · rw [if_neg (fun z => z h1)]
        by_cases h2 : 0 ≤ q ∧ q ≤ 1000000000
        · rw [if_neg (fun z => z h2)]
          by_cases h3 : r < 0
          · rw [if_pos h3]
          · rw [if_neg h3]
            by_cases h4 : 1000000 < r
            · rw [if_pos h4]
            · rw [if_neg h4, q_94, u3, if_neg (by first | decide | omega)]
              rfl
        · rw [if_pos h2]
      · rw [if_pos h1]
    · rw [q_272]
      simp only [m_isHead hR, m_isSum, m_lies, bR, bi_0]
      by_cases h0 : S.2 72 79 = 14
      · rw [if_pos h0]
      · rw [if_neg h0]
        by_cases h1 : 0 ≤ p ∧ p < S.2 72 4
        · rw [if_neg (fun z => z h1)]
          by_cases h2 : 0 ≤ q ∧ q ≤ 1000000000
          · rw [if_neg (fun z => z h2), if_pos (by first | decide | omega)]
          · rw [if_pos h2]
        · rw [if_pos h1]
end
