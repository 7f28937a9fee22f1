/-! answer -/
section
variable {L : Nat} {xs : Nat → Int} {d : Nat} {S S' : AH} {o : Nat}
theorem k12x {T : AH} (hT : T.1 = S.1) (h : isO S o 12 15) : isO T o 12 15 := by
  unfold isO
  rw [hT]
  exact h
theorem o_answer (H : Inv S) (p q : Int) : Ok L xs 56 304 [vi p, vi q] S := by
  have gk := H.gk
  have gp := H.gp
  have hn := gk.n
  obtain ⟨-, ⟨hh1, hh2⟩, -, -⟩ := gp.1
  have ehn : S.2 17 5 = S.2 72 5 := gp.2.2.1
  by_cases hp : 0 ≤ p ∧ p < S.2 72 52
  · obtain ⟨c, hc⟩ := Int.eq_ofNat_of_zero_le hp.1
    subst hc
    have ho := gk.ob hp.2
    have h5 := ho.1
    obtain ⟨a1, a2, a3, a4, a5, a6, a7, a8, a9, a10, a11, a12, a13, a14, a15, a16⟩ := gk.2.2.2.2.1 c hp.2
    obtain ⟨r1, r2, r3, r4, r5, r6, r7, r8, r9, r10, r11, r12, r13⟩ := gk.1.2.2.2.1 c hp.2
    have hq : (0 : Int) ≤ (c : Int) ∧ (c : Int) < 300 := by omega
    have hc3 : c < 300 := by omega
    by_cases hk : S.2 118 c = 1
    · by_cases hz : q = 0
      · subst hz
        obtain ⟨n, hnn⟩ := Int.eq_ofNat_of_zero_le hh1
        obtain ⟨s, hs⟩ := Int.eq_ofNat_of_zero_le r6.1
        obtain ⟨w, hw⟩ := Int.eq_ofNat_of_zero_le r1.1
        have t5 : ∀ k, (wr S (clA S c) 10 3).2 (clA S c) k = if k = 10 then 3 else S.2 (clA S c) k := fun k => wr_f
        have tc : ∀ a, a ≠ clA S c → (wr S (clA S c) 10 3).2 a = S.2 a := fun a ha => wr_c ha
        obtain ⟨T1, x1, x2, x3, x4, x5⟩ := x_charge (L := L) (xs := xs) (d := 197) (T := wr S (clA S c) 10 3) (o := clA S c) ho (n := n) (s := s) (w := w) (by rw [t5, if_neg (by decide), a8, hs]) (by first | decide | omega) (by rw [t5, if_neg (by decide), a2, hw]) (by first | decide | omega) (by rw [tc 17 (by first | decide | omega), ehn, hnn]) (by first | decide | omega)
        have f11 : (wr S (clA S c) 10 3).2 (clA S c) 11 = S.2 119 c := by rw [t5, if_neg (by decide), a13]
        have f3 : (wr S (clA S c) 10 3).2 (clA S c) 3 = S.2 111 c := by rw [t5, if_neg (by decide), a5]
        rw [f11, f3] at x1 x5
        rw [f11] at x4
        have y1 : ∀ a, a < 151 → a ≠ 21 → T1.2 a = S.2 a := fun a q1 q2 => by rw [x3 a q2 (by first | decide | omega), tc a (by first | decide | omega)]
        have u0 : ∀ a, a ≠ 118 → (wr T1 118 c 3).2 a = T1.2 a := fun a ha => wr_c ha
        obtain ⟨U1, m1, m2, m3, m4, m5⟩ := m_charge (L := L) (xs := xs) (d := 197) (T := wr T1 118 c 3) (c := c) hc3 (n := n) (s := s) (w := w) (by rw [u0 114 (by first | decide | omega), y1 114 (by first | decide | omega) (by first | decide | omega), hs]) (by first | decide | omega) (by rw [u0 108 (by first | decide | omega), y1 108 (by first | decide | omega) (by first | decide | omega), hw]) (by first | decide | omega) (by rw [u0 72 (by first | decide | omega), y1 72 (by first | decide | omega) (by first | decide | omega), hnn]) (by first | decide | omega)
        have g119 : ∀ k, (wr T1 118 c 3).2 119 k = S.2 119 k := fun k => by rw [u0 119 (by first | decide | omega), y1 119 (by first | decide | omega) (by first | decide | omega)]
        have g111 : (wr T1 118 c 3).2 111 c = S.2 111 c := by rw [u0 111 (by first | decide | omega), y1 111 (by first | decide | omega) (by first | decide | omega)]
        have g77 : ∀ j, (wr T1 118 c 3).2 77 j = S.2 77 j := fun j => by rw [u0 77 (by first | decide | omega), y1 77 (by first | decide | omega) (by first | decide | omega)]
        simp only [g119, g111, g77] at m1 m4 m5
        have hU1 : U1.1 = S.1 := m2.trans x2
        refine ⟨1, T1, U1, ?_, ?_, ?_, Gw.of hU1⟩
        · rw [q_56, x_cl gk hp.2, bR, Int.toNat_natCast, if_neg (by first | decide | omega), g14 ho, k12 ho, rdvD h5, a12, if_pos hk, if_pos rfl, k12w ho, if_pos rfl]
          exact (congrArg (bindR · _) x1).trans rfl
        · have hR' : RK T1.2 := gk.1.fr (fun a ha => y1 a (by first | decide | omega) (by first | decide | omega)) (fun k _ => by rw [y1 72 (by first | decide | omega) (by first | decide | omega)]) (by unfold HM; rw [y1 72 (by first | decide | omega) (by first | decide | omega)]; omega)
          rw [q_304, m_isClaim hR', bR]
          simp only [bi_0, y1 72 (by first | decide | omega) (by first | decide | omega), y1 118 (by first | decide | omega) (by first | decide | omega), Int.toNat_natCast]
          rw [if_neg (fun z => z hp), if_pos hq, if_pos hk, if_pos trivial, if_pos hq, if_pos trivial]
          exact (congrArg (bindR · _) m1).trans rfl
        · have hnw : (if S.2 119 c = 0 then (1 : Int) else S.2 119 c) = 0 ∨ (if S.2 119 c = 0 then (1 : Int) else S.2 119 c) = 1 := by
            split
            · exact Or.inr rfl
            · exact r9
          have hV : Inv (wr (wr (wr (wr S (clA S c) 10 3) (clA S c) 11 (if S.2 119 c = 0 then 1 else S.2 119 c)) 118 c 3) 119 c (if S.2 119 c = 0 then 1 else S.2 119 c)) := by
            generalize (if S.2 119 c = 0 then (1 : Int) else S.2 119 c) = nw at hnw ⊢
            refine H.mark1 hp.2 rfl (fun a q1 q2 => ?_) (fun a q1 q2 => ?_) (fun a j q1 q2 q3 => ?_) ⟨fun k hk2 => ?_, ?_, ?_, ?_, ?_⟩ ?_
            · rw [wr_c (by first | decide | omega), wr_c (by first | decide | omega), wr_c q2, wr_c q2]
            · rw [wr_c (by first | decide | omega), wr_c (by first | decide | omega), wr_c (by first | decide | omega), wr_c (by first | decide | omega)]
            · simp only [wr_2]
              rw [if_neg (fun z => q3 z.2), if_neg (fun z => q3 z.2), if_neg (by first | decide | omega), if_neg (by first | decide | omega)]
            · rw [wr_c (by first | decide | omega), wr_c (by first | decide | omega), wr_f, if_neg (by first | decide | omega), wr_f, if_neg (by first | decide | omega)]
            · rw [wr_c (show clA S c ≠ 119 by omega), wr_c (show clA S c ≠ 118 by omega), wr_f, if_neg (by decide), wr_f, if_pos rfl, wr_c (show (118 : Nat) ≠ 119 by decide), wr_f, if_pos rfl]
            · rw [wr_c (show clA S c ≠ 119 by omega), wr_c (show clA S c ≠ 118 by omega), wr_f, if_pos rfl, wr_f, if_pos rfl]
            · rw [wr_c (show clA S c ≠ 119 by omega), wr_c (show clA S c ≠ 118 by omega), wr_f, if_neg (by decide), wr_f, if_neg (by decide), wr_c (by decide), wr_c (by decide), wr_c (by first | decide | omega), wr_c (by first | decide | omega), a14]
            · rw [wr_c (show clA S c ≠ 119 by omega), wr_c (show clA S c ≠ 118 by omega), wr_f, if_neg (by decide), wr_f, if_neg (by decide), wr_c (show (121 : Nat) ≠ 119 by decide), wr_c (show (121 : Nat) ≠ 118 by decide), wr_c (show 121 ≠ clA S c by omega), wr_c (show 121 ≠ clA S c by omega), wr_c (show (122 : Nat) ≠ 119 by decide), wr_c (show (122 : Nat) ≠ 118 by decide), wr_c (show 122 ≠ clA S c by omega), wr_c (show 122 ≠ clA S c by omega), a15]
            · rw [wr_f, if_pos rfl, wr_c (show (120 : Nat) ≠ 119 by decide), wr_c (show (120 : Nat) ≠ 118 by decide), wr_c (show 120 ≠ clA S c by omega), wr_c (show 120 ≠ clA S c by omega), wr_c (show (121 : Nat) ≠ 119 by decide), wr_c (show (121 : Nat) ≠ 118 by decide), wr_c (show 121 ≠ clA S c by omega), wr_c (show 121 ≠ clA S c by omega), wr_c (show (122 : Nat) ≠ 119 by decide), wr_c (show (122 : Nat) ≠ 118 by decide), wr_c (show 122 ≠ clA S c by omega), wr_c (show 122 ≠ clA S c by omega)]
              exact ⟨hnw, r10, r11, r12⟩
          refine hV.chg hU1 (fun a q1 q2 => ?_) (fun i hi => ?_)
          · funext k
            by_cases b1 : a = 119
            · subst b1
              rw [m4 k, wr_f, wr_c (show (119 : Nat) ≠ 118 by decide), wr_c (show 119 ≠ clA S c by omega), wr_c (show 119 ≠ clA S c by omega)]
              by_cases b2 : k = c
              · rw [if_pos b2, b2]
                by_cases b3 : S.2 119 c = 0
                · rw [if_pos ⟨rfl, b3⟩, if_pos b3]
                · rw [if_neg (fun z => b3 z.2), if_neg b3]
              · rw [if_neg (fun z => b2 z.1), if_neg b2]
            · rw [m3 a q2 b1, wr_c b1]
              by_cases b2 : a = 118
              · subst b2
                rw [wr_f, wr_f, y1 118 (by first | decide | omega) (by first | decide | omega), wr_c (show 118 ≠ clA S c by omega), wr_c (show 118 ≠ clA S c by omega)]
              · rw [wr_c b2, wr_c b2]
                by_cases b3 : a = clA S c
                · rw [b3, x4 k, t5 k, wr_f, wr_f]
                  by_cases b4 : k = 11
                  · subst b4
                    rw [if_pos rfl]
                    by_cases b5 : S.2 119 c = 0
                    · rw [if_pos ⟨rfl, b5⟩, if_pos b5]
                    · rw [if_neg (fun z => b5 z.2), if_neg b5, if_neg (by decide), a13]
                  · rw [if_neg (fun z => b4 z.1), if_neg b4]
                · rw [x3 a q1 b3, tc a b3, wr_c b3, wr_c b3]
          · rw [m3 21 (by first | decide | omega) (by first | decide | omega), wr_c (show (21 : Nat) ≠ 118 by decide), x5 i, m5 i, tc 21 (by first | decide | omega), gp.2.2.2.2.2 i hi]
      · refine ⟨1, wr S (clA S c) 10 2, wr (wr S (clA S c) 10 2) 118 c 2, ?_, ?_, ?_, Gw.of rfl⟩
        · rw [q_56, x_cl gk hp.2, bR, Int.toNat_natCast, if_neg (by first | decide | omega), g14 ho, k12 ho, rdvD h5, a12, if_pos hk, if_neg hz, k12w ho, if_neg hz]
        · have e1 : ∀ a, a < 151 → (wr S (clA S c) 10 2).2 a = S.2 a := fun a ha => wr_c (by first | decide | omega)
          have hR' : RK (wr S (clA S c) 10 2).2 := gk.1.fr (fun a ha => e1 a (by first | decide | omega)) (fun k _ => by rw [e1 72 (by first | decide | omega)]) (by unfold HM; rw [e1 72 (by first | decide | omega)]; omega)
          rw [q_304, m_isClaim hR', bR]
          simp only [bi_0, e1 72 (by first | decide | omega), e1 118 (by first | decide | omega), Int.toNat_natCast]
          rw [if_neg (fun z => z hp), if_pos hq, if_pos hk, if_neg hz, if_pos hq, if_neg hz]
        · refine H.mark1 hp.2 rfl (fun a q1 q2 => ?_) (fun a q1 q2 => ?_) (fun a j q1 q2 q3 => ?_) ⟨fun k hk2 => ?_, ?_, ?_, ?_, ?_⟩ ?_
          · rw [wr_c (by first | decide | omega), wr_c q2]
          · rw [wr_c (by first | decide | omega), wr_c (by first | decide | omega)]
          · simp only [wr_2]
            rw [if_neg (fun z => q3 z.2), if_neg (by first | decide | omega)]
          · rw [wr_c (by first | decide | omega), wr_f, if_neg (by first | decide | omega)]
          · rw [wr_c (show clA S c ≠ 118 by omega), wr_f, if_pos rfl, wr_f, if_pos rfl]
          · rw [wr_c (show clA S c ≠ 118 by omega), wr_f, if_neg (by decide), wr_c (by decide), wr_c (by first | decide | omega), a13]
          · rw [wr_c (show clA S c ≠ 118 by omega), wr_f, if_neg (by decide), wr_c (by decide), wr_c (by first | decide | omega), a14]
          · rw [wr_c (show clA S c ≠ 118 by omega), wr_f, if_neg (by decide), wr_c (show (121 : Nat) ≠ 118 by decide), wr_c (show 121 ≠ clA S c by omega), wr_c (show (122 : Nat) ≠ 118 by decide), wr_c (show 122 ≠ clA S c by omega), a15]
          · rw [wr_c (show (119 : Nat) ≠ 118 by decide), wr_c (show 119 ≠ clA S c by omega), wr_c (show (120 : Nat) ≠ 118 by decide), wr_c (show 120 ≠ clA S c by omega), wr_c (show (121 : Nat) ≠ 118 by decide), wr_c (show 121 ≠ clA S c by omega), wr_c (show (122 : Nat) ≠ 118 by decide), wr_c (show 122 ≠ clA S c by omega)]
            exact ⟨r9, r10, r11, r12⟩
    · refine Ok.same (r := 0) H ?_ ?_
      · rw [q_56, x_cl gk hp.2, bR, Int.toNat_natCast, if_neg (by first | decide | omega), g14 ho, k12 ho, rdvD h5, a12, if_neg hk]
      · rw [q_304, m_isClaim gk.1, bR]
        simp only [bi_0, Int.toNat_natCast]
        rw [if_neg (fun z => z hp), if_pos hq, if_neg hk]
  · refine Ok.same (r := 0) H ?_ ?_
    · rw [q_56, x_cl0 gk hp, bR, if_pos (by decide)]
    · rw [q_304, m_isClaim gk.1, bR]
      simp only [bi_0]
      rw [if_pos hp]
end
