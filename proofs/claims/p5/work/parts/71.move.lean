/-! move -/
noncomputable def cmv (h : Nat → Nat → Int) (v : Nat) (y : Int) : Prop := (h 97 v = 0 ∨ h 97 v = 2) ∧ h 100 v = y ∧ h 101 v = -1
section
variable {L : Nat} {xs : Nat → Int} {d : Nat} {S T U S' W : AH}
theorem RP.fr {h h' : Nat → Nat → Int} (H : RP h) (e4 : h' 72 4 = h 72 4) (e5 : h' 72 5 = h 72 5) (hc : ∀ a, 74 ≤ a ∧ a ≤ 77 → h' a = h a) : RP h' := by
  unfold RP
  rw [e4, e5, hc 74 (by first | decide | omega), hc 75 (by first | decide | omega), hc 76 (by first | decide | omega)]
  exact H
/-- where the class alone has moved, the reference reads as before -/
theorem Inv.ref (H : Inv S) (hW : ∀ a, 72 ≤ a → a < 151 → a ≠ 96 → W.2 a = S.2 a) : RK W.2 ∧ RV W.2 ∧ RP W.2 := by
  have w72 := hW 72 (by decide) (by decide) (by decide)
  have hm : HM S.2 W.2 := by
    unfold HM
    rw [w72]
    omega
  exact ⟨H.gk.1.fr (fun a ha => hW a (by first | decide | omega) (by first | decide | omega) (by first | decide | omega)) (fun k _ => by rw [w72]) hm, H.gv.1.fr (fun a ha => hW a (by first | decide | omega) (by first | decide | omega) (by first | decide | omega)) (fun k _ => by rw [w72]) hm, H.gp.1.fr (by rw [w72]) (by rw [w72]) (fun a ha => hW a (by first | decide | omega) (by first | decide | omega) (by first | decide | omega))⟩
theorem Inv.yN (H : Inv S) : (0 ≤ yr (S.2 72 2) ∧ yr (S.2 72 2) < 10) := by
  have := H.gt.2
  unfold yr
  rw [yr_v this.1 this.2]
  omega
theorem x_canMove (gv : GV S) {v : Nat} (hv : (v : Int) < S.2 72 40) (y : Int) [Decidable (cmv S.2 v y)] : ev (WK L xs) (d + 1) 73 [vr (auA S v), vi y] S = some (bi (cmv S.2 v y), S) := by
  obtain ⟨a1, a2, a3, a4, a5, a6, a7, a8, a9, a10, a11, a12, a13, a14, a15, a16⟩ := gv.2.2.2.1 v hv
  have h5 := a1.1
  have k15 : LQ (WK L xs) (ev (WK L xs) d) 73 15 [some (vr (auA S v)), some (vi y)] [] S = some (bi (S.2 100 v = y ∧ S.2 101 v = -1), S) := by
    rw [q_73_15, k11 a1, k11 a1, rdvD h5, rdvD h5, a6, a10]
    by_cases h1 : S.2 100 v = y
    · rw [if_pos h1, ite_bi]
      congr 2
      exact bi_iff ⟨fun z => ⟨h1, z⟩, fun z => z.2⟩
    · rw [if_neg h1, bi_F (fun z => h1 z.1)]
  rw [q_73, k15]
  simp only [k11 a1, rdvD h5, a3]
  by_cases h1 : S.2 97 v = 0
  · rw [if_pos h1]
    congr 2
    exact bi_iff ⟨fun z => ⟨Or.inl h1, z⟩, fun z => z.2⟩
  · rw [if_neg h1]
    by_cases h2 : S.2 97 v = 2
    · rw [if_pos h2]
      congr 2
      exact bi_iff ⟨fun z => ⟨Or.inr h2, z⟩, fun z => z.2⟩
    · rw [if_neg h2, bi_F (fun z => by rcases z.1 with z | z <;> contradiction)]
theorem m_canMove (gv : RV S.2) {v : Nat} (hv : (v : Int) < S.2 72 40) [Decidable (cmv S.2 v (yr (S.2 72 2)))] : ev (WK L xs) (d + 3) 253 [vr 72, vi (v : Int)] S = some (bi (cmv S.2 v (yr (S.2 72 2))), S) := by
  have hn := gv.1
  have hq : (0 : Int) ≤ (v : Int) ∧ (v : Int) < 80 := by omega
  have k27 : LQ (WK L xs) (ev (WK L xs) (d + 2)) 253 27 [some (vr 72), some (vi (v : Int))] [] S = some (bi (S.2 100 v = yr (S.2 72 2) ∧ S.2 101 v = -1), S) := by
    rw [q_253_27, m_year, bR]
    simp only [if_pos hq, Int.toNat_natCast]
    show (if S.2 100 v = yr (S.2 72 2) then _ else _) = _
    by_cases h1 : S.2 100 v = yr (S.2 72 2)
    · rw [if_pos h1, ite_bi]
      congr 2
      exact bi_iff ⟨fun z => ⟨h1, z⟩, fun z => z.2⟩
    · rw [if_neg h1, bi_F (fun z => h1 z.1)]
  rw [q_253, m_isAu gv, bR, k27]
  simp only [bi_0, if_pos hq, Int.toNat_natCast]
  rw [if_neg (fun z => z ⟨hq.1, hv⟩)]
  by_cases h1 : S.2 97 v = 0
  · rw [if_pos h1]
    congr 2
    exact bi_iff ⟨fun z => ⟨Or.inl h1, z⟩, fun z => z.2⟩
  · rw [if_neg h1]
    by_cases h2 : S.2 97 v = 2
    · rw [if_pos h2]
      congr 2
      exact bi_iff ⟨fun z => ⟨Or.inr h2, z⟩, fun z => z.2⟩
    · rw [if_neg h2, bi_F (fun z => by rcases z.1 with z | z <;> contradiction)]
theorem m_canMove0 (gv : RV S.2) {p : Int} (hp : ¬ (0 ≤ p ∧ p < S.2 72 40)) : ev (WK L xs) (d + 3) 253 [vr 72, vi p] S = some (0, S) := by
  rw [q_253, m_isAu gv, bR]
  simp only [bi_0]
  rw [if_pos hp]
theorem o_move (H : Inv S) (p q s : Int) : Ok L xs 22 252 [vi p, vi q, vi s] S := by
  have gv := H.gv
  have ht := H.gt
  have hy := H.yN
  have inst : ∀ v y, Decidable (cmv S.2 v y) := fun v y => Classical.propDecidable _
  by_cases hp : 0 ≤ p ∧ p < S.2 72 40
  · by_cases hw : 0 ≤ q ∧ q < S.2 72 40
    · obtain ⟨v, hv⟩ := Int.eq_ofNat_of_zero_le hp.1
      subst hv
      obtain ⟨w, hw2⟩ := Int.eq_ofNat_of_zero_le hw.1
      subst hw2
      obtain ⟨a1, a2, a3, a4, a5, a6, a7, a8, a9, a10, a11, a12, a13, a14, a15, a16⟩ := gv.2.2.2.1 v hp.2
      obtain ⟨b1, b2, b3, b4, b5, b6, b7, b8, b9, b10, b11, b12, b13, b14, b15, b16⟩ := gv.2.2.2.1 w hw.2
      have h5 := a1.1
      have h6 := b1.1
      have hn80 := gv.1.1
      have hqv : (0 : Int) ≤ (v : Int) ∧ (v : Int) < 80 := by omega
      have hqw : (0 : Int) ≤ (w : Int) ∧ (w : Int) < 80 := by omega
      obtain ⟨T, t1, t2, t3⟩ := x_nmb (L := L) (xs := xs) (d := 194) H.gl (k := 0) (by decide) (S.2 72 2)
      generalize hNm : nmb S.2 0 (S.2 72 2) = nm at t1
      have oT : isO T (auA S v) 11 14 := a1.eq t2
      have oT2 : isO T (auA S w) 11 14 := b1.eq t2
      have eT : T.2 (auA S v) = S.2 (auA S v) := t3 _ (by first | decide | omega)
      have eT2 : T.2 (auA S w) = S.2 (auA S w) := t3 _ (by first | decide | omega)
      generalize hP : ((v : Int) ≠ w ∧ (0 ≤ s ∧ s ≤ 1000000000) ∧ cmv S.2 v (yr (S.2 72 2)) ∧ cmv S.2 w (yr (S.2 72 2)) ∧ ¬ lft S.2 v (yr (S.2 72 2)) < s) = P
      have instP : Decidable P := Classical.propDecidable _
      have X22 : ev (WK L xs) 200 22 [vr 15, vi (v : Int), vi (w : Int), vi s] S = if P then (if ldiv (w64 (S.2 99 v * nm)) 100 < w64 (S.2 107 v + s) then some (0, T) else some (1, wr (wr T (auA S v) 12 (w64 (S.2 107 v + s))) (auA S w) 11 (w64 (S.2 106 w + s)))) else some (0, S) := by
        subst hP
        rw [q_22, x_au gv hp.2, bR, x_au gv hw.2, bR, Int.toNat_natCast, Int.toNat_natCast, if_neg (by first | decide | omega), g14a a1, if_neg (by first | decide | omega), g14a b1]
        by_cases c1 : (v : Int) = w
        · rw [if_pos c1, if_neg (fun z => z.1 c1)]
        rw [if_neg c1, x_isSum, bR]
        simp only [bi_0]
        by_cases c2 : 0 ≤ s ∧ s ≤ 1000000000
        rotate_left
        · rw [if_pos c2, if_neg (fun z => c2 z.2.1)]
        rw [if_neg (fun z => z c2), x_yearOf, bR, ht.1]
        have kk1 : ∀ r : Rs, gd (Nat.beq (shp (WK L xs) S (auA S v)).1 11 && Nat.ble 0 8) r = r := fun r => by rw [shpD h5, a1.2.2]; rfl
        have kk2 : ∀ r : Rs, gd (Nat.beq (shp (WK L xs) S (auA S w)).1 11 && Nat.ble 0 8) r = r := fun r => by rw [shpD h6, b1.2.2]; rfl
        rw [kk1, x_canMove gv hp.2, bR]
        simp only [bi_0]
        by_cases c3 : cmv S.2 v (yr (S.2 72 2))
        rotate_left
        · rw [if_pos c3, if_neg (fun z => c3 z.2.2.1)]
        rw [if_neg (fun z => z c3), kk2, x_canMove gv hw.2, bR]
        simp only [bi_0]
        by_cases c4 : cmv S.2 w (yr (S.2 72 2))
        rotate_left
        · rw [if_pos c4, if_neg (fun z => c4 z.2.2.2.1)]
        rw [if_neg (fun z => z c4), x_leftOf H hp.2 hy, bR]
        simp only [lc_lt]
        by_cases c5 : lft S.2 v (yr (S.2 72 2)) < s
        · rw [if_pos c5, if_neg (fun z => z.2.2.2.2 c5)]
        rw [if_neg c5, if_pos ⟨c1, c2, c3, c4, c5⟩, k11 a1, ht.1]
        rw [show ev (WK L xs) 199 108 [vr 31, vi 0, vi (S.2 72 2)] S = some (nm, T) from t1, bR, k11 oT, k11 oT, k11w oT, k11 (show isO (wr T (auA S v) 12 (w64 (rdv (WK L xs) T (auA S v) 12 + s))) (auA S w) 11 14 from oT2), k11w (show isO (wr T (auA S v) 12 (w64 (rdv (WK L xs) T (auA S v) 12 + s))) (auA S w) 11 14 from oT2), rdvD h5, rdvD h5, rdvD h6, wr_2, if_neg (show ¬ (auA S w = auA S v ∧ (11 : Nat) = 12) from fun z => absurd z.2 (by decide)), eT, eT2, a14, a5, b13]
        simp only [lc_gt]
      have M252 : ∀ W : AH, (∀ a, 72 ≤ a → a < 151 → W.2 a = S.2 a) → GL W → ∃ U, U.1 = W.1 ∧ (∀ a, a ≠ 96 → U.2 a = W.2 a) ∧ ev (WK L xs) 200 252 [vr 72, vi (v : Int), vi (w : Int), vi s] W = if P then (if ldiv (w64 (S.2 99 v * nm)) 100 < w64 (S.2 107 v + s) then some (0, U) else some (1, wr (wr U 107 v (w64 (S.2 107 v + s))) 106 w (w64 (S.2 106 w + s)))) else some (0, W) := by
        intro W hW glW
        obtain ⟨rk, rv, rp⟩ := H.ref (W := W) (fun a q1 q2 _ => hW a q1 q2)
        have w72 := hW 72 (by decide) (by decide)
        obtain ⟨U, u1, u2, u3⟩ := m_nmb (L := L) (xs := xs) (d := 195) glW (k := 0) (by decide) (S.2 72 2)
        rw [nmb_fr 0 _ (hW 78 (by decide) (by decide)) (hW 79 (by decide) (by decide)) (hW 80 (by decide) (by decide)) (hW 81 (by decide) (by decide)) (hW 94 (by decide) (by decide)) (hW 95 (by decide) (by decide)) (by rw [w72]), hNm] at u1
        refine ⟨U, u2, u3, ?_⟩
        have hpW : (v : Int) < W.2 72 40 := by rw [w72]; exact hp.2
        have hwW : (w : Int) < W.2 72 40 := by rw [w72]; exact hw.2
        have ecm : ∀ v y, cmv W.2 v y = cmv S.2 v y := fun v y => by unfold cmv; rw [hW 97 (by decide) (by decide), hW 100 (by decide) (by decide), hW 101 (by decide) (by decide)]
        have elf : lft W.2 = lft S.2 := lft_fr (fun a ha => hW a (by first | decide | omega) (by first | decide | omega)) (by rw [w72]) (by rw [w72])
        have i1 : Decidable (cmv W.2 v (yr (W.2 72 2))) := Classical.propDecidable _
        have i2 : Decidable (cmv W.2 w (yr (W.2 72 2))) := Classical.propDecidable _
        have mc1 : ev (WK L xs) 199 253 [vr 72, vi (v : Int)] W = some (bi (cmv S.2 v (yr (S.2 72 2))), W) := by
          rw [show (199 : Nat) = 196 + 3 from rfl, m_canMove rv hpW]
          congr 2
          exact bi_iff (by rw [ecm, w72])
        have mc2 : ev (WK L xs) 199 253 [vr 72, vi (w : Int)] W = some (bi (cmv S.2 w (yr (S.2 72 2))), W) := by
          rw [show (199 : Nat) = 196 + 3 from rfl, m_canMove rv hwW]
          congr 2
          exact bi_iff (by rw [ecm, w72])
        subst hP
        rw [q_252, mc1, bR]
        simp only [bi_0]
        by_cases c3 : cmv S.2 v (yr (S.2 72 2))
        rotate_left
        · rw [if_pos c3, if_neg (fun z => c3 z.2.2.1)]
        rw [if_neg (fun z => z c3), mc2, bR]
        simp only [bi_0]
        by_cases c4 : cmv S.2 w (yr (S.2 72 2))
        rotate_left
        · rw [if_pos c4, if_neg (fun z => c4 z.2.2.2.1)]
        rw [if_neg (fun z => z c4)]
        by_cases c1 : (v : Int) = w
        · rw [if_pos c1, if_neg (fun z => z.1 c1)]
        rw [if_neg c1, m_isSum, bR]
        simp only [bi_0]
        by_cases c2 : 0 ≤ s ∧ s ≤ 1000000000
        rotate_left
        · rw [if_pos c2, if_neg (fun z => c2 z.2.1)]
        rw [if_neg (fun z => z c2), m_year, bR, m_leftOf rk rv rp hpW, bR, elf, w72]
        simp only [lc_gt]
        rw [show idiv (S.2 72 2) 360 = yr (S.2 72 2) from rfl]
        by_cases c5 : lft S.2 v (yr (S.2 72 2)) < s
        · rw [if_pos c5, if_neg (fun z => z.2.2.2.2 c5)]
        rw [if_neg c5, if_pos hqv, if_pos hqv, if_pos (show (v : Int) ≠ w ∧ (0 ≤ s ∧ s ≤ 1000000000) ∧ cmv S.2 v (yr (S.2 72 2)) ∧ cmv S.2 w (yr (S.2 72 2)) ∧ ¬ lft S.2 v (yr (S.2 72 2)) < s from ⟨c1, c2, c3, c4, c5⟩)]
        rw [show ev (WK L xs) 199 236 [vr 72, vi 109, vi (S.2 72 2)] W = some (nm, U) from u1, bR, u3 107 (by decide), u3 106 (by decide), hW 107 (by decide) (by decide), hW 106 (by decide) (by decide), hW 99 (by decide) (by decide), Int.toNat_natCast, Int.toNat_natCast]
        simp only [if_pos hqv, if_pos hqw]
      by_cases hPP : P
      · rw [if_pos hPP] at X22
        by_cases hM : ldiv (w64 (S.2 99 v * nm)) 100 < w64 (S.2 107 v + s)
        · rw [if_pos hM] at X22
          have HT := H.s35 t2 t3
          obtain ⟨U, u1, u2, u3⟩ := M252 T (fun a q1 q2 => t3 a (by first | decide | omega)) HT.gl
          rw [if_pos hPP, if_pos hM] at u3
          exact ⟨0, T, U, X22, u3, HT.s96 u1 u2, Gw.of (u1.trans t2)⟩
        · rw [if_neg hM] at X22
          have hvw : v ≠ w := by
            rw [← hP] at hPP
            have := hPP.1
            omega
          have hne : auA S v ≠ auA S w := fun z => hvw (auA_inj gv hp.2 hw.2 z)
          generalize hmf : w64 (S.2 107 v + s) = mf at X22 M252 hM
          generalize hmt : w64 (S.2 106 w + s) = mt at X22 M252
          have cW : ∀ a, a ≠ 35 → a ≠ auA S v → a ≠ auA S w → (wr (wr T (auA S v) 12 mf) (auA S w) 11 mt).2 a = S.2 a := fun a q1 q2 q3 => by rw [wr_c q3, wr_c q2, t3 a q1]
          have hFx : Fx (fun a => a = auA S v ∨ a = auA S w) S (wr (wr T (auA S v) 12 mf) (auA S w) 11 mt) := ⟨by show S.1.1 ≤ T.1.1; rw [t2]; exact Nat.le_refl _, fun a q1 q2 => ⟨by show T.1.2.2 a = S.1.2.2 a; rw [t2], fun q => cW a (by first | decide | omega) (fun z => q (Or.inl z)) (fun z => q (Or.inr z))⟩⟩
          have hXt : Xt (fun a => a = auA S v ∨ a = auA S w) S := by
            rintro a (rfl | rfl)
            · rw [a1.2.2]; omega
            · rw [b1.2.2]; omega
          have glW : GL (wr (wr T (auA S v) 12 mf) (auA S w) 11 mt) := H.gl.fx hFx hXt (fun a q => cW a (by first | decide | omega) (by first | decide | omega) (by first | decide | omega)) (by rw [cW 72 (by decide) (by first | decide | omega) (by first | decide | omega)]) (fun t x _ q => q.cells (fun a q1 q2 => cW a (by first | decide | omega) (by first | decide | omega) (by first | decide | omega)))
          obtain ⟨U, u1, u2, u3⟩ := M252 _ (fun a q1 q2 => cW a (by first | decide | omega) (by first | decide | omega) (by first | decide | omega)) glW
          rw [if_pos hPP, if_neg hM] at u3
          refine ⟨1, _, _, X22, u3, ?_, Gw.of (u1.trans t2)⟩
          have H1 : Inv (wr (wr S (auA S v) 12 mf) 107 v mf) := by
            refine H.au1 hp.2 rfl (fun a q1 q2 => by rw [wr_c (by first | decide | omega), wr_c q2]) (fun a q1 _ _ _ q5 => by rw [wr_c q5, wr_c (by first | decide | omega)]) (fun a j q1 q2 => ?_) (fun k q1 q2 => ?_) ?_ ?_ ?_ ?_
            · rw [wr_2, if_neg (fun z => q2 z.2), wr_c (by first | decide | omega)]
            · rw [wr_c (by first | decide | omega), wr_f, if_neg (by first | decide | omega)]
            · rw [wr_c (by first | decide | omega), wr_f, if_neg (by decide), wr_c (by decide), wr_c (by first | decide | omega), a10]
            · rw [wr_c (by first | decide | omega), wr_f, if_neg (by decide), wr_c (by decide), wr_c (by first | decide | omega), a12]
            · rw [wr_c (by first | decide | omega), wr_f, if_neg (by decide), wr_c (by decide), wr_c (by first | decide | omega), a13]
            · rw [wr_c (by first | decide | omega), wr_f, if_pos rfl, wr_f, if_pos rfl]
          generalize hS1 : wr (wr S (auA S v) 12 mf) 107 v mf = S1 at H1
          have s1 : ∀ a, a ≠ 107 → a ≠ auA S v → S1.2 a = S.2 a := fun a q1 q2 => by rw [← hS1, wr_c q1, wr_c q2]
          have eaw : auA S1 w = auA S w := by unfold auA; rw [s1 37 (by decide) (by first | decide | omega)]
          have hwS1 : (w : Int) < S1.2 72 40 := by rw [s1 72 (by decide) (by first | decide | omega)]; exact hw.2
          have H2 : Inv (wr (wr S1 (auA S w) 11 mt) 106 w mt) := by
            refine H1.au1 hwS1 rfl (fun a q1 q2 => by rw [eaw] at q2; rw [wr_c (by first | decide | omega), wr_c q2]) (fun a q1 _ _ q4 _ => by rw [wr_c q4, wr_c (by first | decide | omega)]) (fun a j q1 q2 => ?_) (fun k q1 q2 => ?_) ?_ ?_ ?_ ?_
            · rw [wr_2, if_neg (fun z => q2 z.2), wr_c (by first | decide | omega)]
            · rw [eaw, wr_c (by first | decide | omega), wr_f, if_neg (by first | decide | omega)]
            · rw [eaw, wr_c (by first | decide | omega), wr_f, if_neg (by decide), wr_c (by decide), wr_c (by first | decide | omega), s1 (auA S w) (by first | decide | omega) hne.symm, s1 101 (by decide) (by first | decide | omega), b10]
            · rw [eaw, wr_c (by first | decide | omega), wr_f, if_neg (by decide), wr_c (by decide), wr_c (by first | decide | omega), s1 (auA S w) (by first | decide | omega) hne.symm, s1 105 (by decide) (by first | decide | omega), b12]
            · rw [eaw, wr_c (by first | decide | omega), wr_f, if_pos rfl, wr_f, if_pos rfl]
            · rw [eaw, wr_c (by first | decide | omega), wr_f, if_neg (by decide), wr_c (by decide), wr_c (by first | decide | omega), s1 (auA S w) (by first | decide | omega) hne.symm, ← hS1, wr_f, if_neg (fun z => hvw z.symm), wr_c (by first | decide | omega), b14]
          refine H2.scr (Fr.eq (by rw [← hS1]; exact u1.trans t2) (fun a q1 => ?_)) (fun a k q1 q2 => ?_)
          · rw [wr_c (by first | decide | omega), wr_c (by first | decide | omega), u2 a (by first | decide | omega), wr_c (show a ≠ 106 by omega)]
            funext k
            rw [wr_2, wr_2, wr_2, t3 a (by first | decide | omega), ← hS1, wr_2, if_neg (show ¬ (a = 107 ∧ k = v) by omega), wr_2]
          · have n35 : a ≠ 35 := fun z => q2 (by unfold scr; omega)
            have n96 : a ≠ 96 := fun z => q2 (by unfold scr; omega)
            rw [wr_2, wr_2, u2 a n96, wr_c (show a ≠ auA S w by omega), wr_c (show a ≠ auA S v by omega), t3 a n35, wr_2, wr_c (show a ≠ auA S w by omega), ← hS1, wr_2, wr_c (show a ≠ auA S v by omega)]
      · rw [if_neg hPP] at X22
        obtain ⟨U, u1, u2, u3⟩ := M252 S (fun _ _ _ => rfl) H.gl
        rw [if_neg hPP] at u3
        exact ⟨0, S, S, X22, u3, H, Gw.rf⟩
    · refine Ok.same (r := 0) H ?_ ?_
      · obtain ⟨v, hv⟩ := Int.eq_ofNat_of_zero_le hp.1
        subst hv
        have a1 := gv.ob hp.2
        have := a1.1
        rw [q_22, x_au gv hp.2, bR, x_au0 gv hw, bR, Int.toNat_natCast, if_neg (by first | decide | omega), g14a a1, if_pos (by decide)]
      · obtain ⟨v, hv⟩ := Int.eq_ofNat_of_zero_le hp.1
        subst hv
        have i1 : Decidable (cmv S.2 v (yr (S.2 72 2))) := Classical.propDecidable _
        rw [q_252, m_canMove gv.1 hp.2, bR, m_canMove0 gv.1 hw, bR]
        simp only [bi_0]
        by_cases c3 : cmv S.2 v (yr (S.2 72 2))
        · rw [if_neg (fun z => z c3), if_pos trivial]
        · rw [if_pos c3]
  · refine Ok.same (r := 0) H ?_ ?_
    · have hx : ∃ r, ev (WK L xs) 199 168 [vr 36, vi q] S = some (r, S) := by
        by_cases hw : 0 ≤ q ∧ q < S.2 72 40
        · obtain ⟨w, hw2⟩ := Int.eq_ofNat_of_zero_le hw.1
          subst hw2
          exact ⟨_, x_au gv hw.2⟩
        · exact ⟨_, x_au0 gv hw⟩
      obtain ⟨r, hr⟩ := hx
      rw [q_22, x_au0 gv hp, bR, hr, bR, if_pos (by decide)]
    · rw [q_252, m_canMove0 gv.1 hp, bR, if_pos rfl]
end
