/-! one authority: what may change without its sums -/
section
variable {L : Nat} {xs : Nat → Int} {d : Nat} {S T U S' : AH}
theorem GV.ob (H : GV S) {v : Nat} (hv : (v : Int) < S.2 72 40) : isO S (auA S v) 11 14 := (H.2.2.2.1 v hv).1
theorem auA_inj (H : GV S) {v w : Nat} (hv : (v : Int) < S.2 72 40) (hw : (w : Int) < S.2 72 40) (h : auA S v = auA S w) : v = w := H.2.2.2.2.1 v w hv hw (Or.inl h)
theorem k11w {o k : Nat} (h : isO S o 11 14) (r : Rs) : gd (Nat.beq (shp (WK L xs) S o).1 11 && wok (WK L xs) o k) r = r := by
  rw [shpD h.1, h.2.2, wokD h.1]
  rfl
theorem isO.eq {o t n : Nat} (h : isO S o t n) (hT : T.1 = S.1) : isO T o t n := by
  unfold isO
  rw [hT]
  exact h
theorem au_cl (gv : GV S) (gk : GK S) {v c : Nat} (hv : (v : Int) < S.2 72 40) (hc : (c : Int) < S.2 72 52) : auA S v ≠ clA S c ∧ spA S v ≠ clA S c := by
  have z1 := (gk.ob hc).2.2
  have z2 := (gv.2.2.2.1 v hv).1.2.2
  have z3 := (gv.2.2.2.1 v hv).2.1.2.2
  constructor
  · intro e
    rw [e, z1] at z2
    cases z2
  · intro e
    rw [e, z1] at z3
    cases z3
theorem au_sp (gv : GV S) {v w : Nat} (hv : (v : Int) < S.2 72 40) (hw : (w : Int) < S.2 72 40) : auA S v ≠ spA S w := by
  have z2 := (gv.2.2.2.1 v hv).1.2.2
  have z3 := (gv.2.2.2.1 w hw).2.1.2.2
  intro e
  rw [← e, z2] at z3
  cases z3
theorem Inv.au1 (H : Inv S) {v : Nat} (hv : (v : Int) < S.2 72 40) (hS : S'.1 = S.1) (hF : ∀ a, 151 ≤ a → a ≠ auA S v → S'.2 a = S.2 a) (hc : ∀ a, a < 151 → a ≠ 101 → a ≠ 105 → a ≠ 106 → a ≠ 107 → S'.2 a = S.2 a) (hj : ∀ a j, a < 151 → j ≠ v → S'.2 a j = S.2 a j)
    (hO : ∀ k, k ≠ 7 → ¬ (10 ≤ k ∧ k ≤ 12) → S'.2 (auA S v) k = S.2 (auA S v) k) (h7 : S'.2 (auA S v) 7 = S'.2 101 v) (h10 : S'.2 (auA S v) 10 = S'.2 105 v) (h11 : S'.2 (auA S v) 11 = S'.2 106 v) (h12 : S'.2 (auA S v) 12 = S'.2 107 v) : Inv S' := by
  obtain ⟨i1, gt, gc, gx, gb, gp, gl, gv, gk, gu, gw, gn⟩ := H
  have hov := gv.ob hv
  have hFx : Fx (fun a => a = auA S v) S S' := ⟨by rw [hS]; exact Nat.le_refl _, fun a q1 q2 => ⟨by rw [hS], fun q => hF a q1 q⟩⟩
  have hX : Xt (fun a => a = auA S v) S := by
    rintro a rfl
    rw [hov.2.2]
    omega
  have C : ∀ a, a < 101 ∨ (101 < a ∧ a < 105) ∨ (107 < a ∧ a < 151) → S'.2 a = S.2 a := fun a q => hc a (by first | decide | omega) (by first | decide | omega) (by first | decide | omega) (by first | decide | omega) (by first | decide | omega)
  have c15 := C 15 (by first | decide | omega)
  have c72 := C 72 (by first | decide | omega)
  have hm : HM S.2 S'.2 := by
    unfold HM
    rw [c72]
    omega
  have eau : ∀ w, auA S' w = auA S w := fun w => by unfold auA; rw [C 37 (by first | decide | omega)]
  have esp : ∀ w : Nat, (w : Int) < S.2 72 40 → spA S' w = spA S w := fun w hw => by
    unfold spA
    rw [eau]
    by_cases e : w = v
    · subst e
      rw [hO 13 (by decide) (by decide)]
    · rw [hF _ (gv.ob hw).1 (fun z => e (auA_inj gv hw hv z))]
  have hp : pby S'.2 = pby S.2 := pby_fr (C _ (by first | decide | omega)) (C _ (by first | decide | omega)) (C _ (by first | decide | omega)) (C _ (by first | decide | omega)) (C _ (by first | decide | omega)) (by rw [c72])
  have hq : pct S'.2 = pct S.2 := pct_fr (C _ (by first | decide | omega)) (C _ (by first | decide | omega)) (C _ (by first | decide | omega)) (by rw [c72])
  have hcb : cby S'.2 = cby S.2 := cby_fr (C _ (by first | decide | omega)) (C _ (by first | decide | omega)) (C _ (by first | decide | omega))
  refine ⟨by rw [hS]; exact i1, gt.fr (by rw [c15]) (by rw [c72]), gc.fr (by rw [c15]) (by rw [c72]), gx.fr (by rw [c15]) (by rw [c72]), gb.fr (by rw [c15]) (by rw [c72]) (C _ (by first | decide | omega)) (C _ (by first | decide | omega)), gp.fr (by rw [c72]) (by rw [c72]) (fun a q => C a (by first | decide | omega)), gl.fx hFx hX (fun a q => C a (by first | decide | omega)) (by rw [c72]) (fun t x _ q => q.cells (fun a q1 q2 => C a (by first | decide | omega))), ?_, ?_, gu.fr (by rw [c72]) (by rw [C 50 (by first | decide | omega)]) (by rw [C 50 (by first | decide | omega)]) (fun a q => C a (by first | decide | omega)), gw.fr (by rw [c72]) (by rw [c72]) (by rw [C 54 (by first | decide | omega)]) (by rw [C 54 (by first | decide | omega)]) (fun a q => C a (by first | decide | omega)), gn.fr (by rw [c72]) (by rw [c72]) (by rw [c72]) (by rw [C 63 (by first | decide | omega)]) (by rw [C 63 (by first | decide | omega)]) (by rw [C 63 (by first | decide | omega)]) (fun a q => C a (by first | decide | omega))⟩
  · obtain ⟨h1, h2, h3, h4, h5, h6, h7'⟩ := gv
    have gv0 : GV S := ⟨h1, h2, h3, h4, h5, h6, h7'⟩
    unfold GV
    rw [hq, C 36 (by first | decide | omega), c72, C 38 (by first | decide | omega), C 39 (by first | decide | omega), C 40 (by first | decide | omega), C 41 (by first | decide | omega), C 42 (by first | decide | omega), C 124 (by first | decide | omega), C 125 (by first | decide | omega), C 126 (by first | decide | omega), C 127 (by first | decide | omega)]
    refine ⟨?_, h2, h3, fun w hw => ?_, fun w x hw hx q => ?_, h6, h7'⟩
    · unfold RV at h1 ⊢
      rw [c72, C 97 (by first | decide | omega), C 98 (by first | decide | omega), C 99 (by first | decide | omega), C 100 (by first | decide | omega), C 102 (by first | decide | omega), C 104 (by first | decide | omega), C 124 (by first | decide | omega), C 125 (by first | decide | omega), C 126 (by first | decide | omega), C 127 (by first | decide | omega)]
      refine ⟨h1.1, h1.2.1, fun w hw1 hw2 => ?_, h1.2.2.2⟩
      rw [hj 105 w (by decide) (by first | decide | omega), hj 106 w (by decide) (by first | decide | omega), hj 107 w (by decide) (by first | decide | omega)]
      exact h1.2.2.1 w hw1 hw2
    · by_cases e : w = v
      · subst e
        have A := h4 w hw
        have e4 : S'.2 (spA S w) = S.2 (spA S w) := hF _ A.2.1.1 (au_sp gv0 hw hw).symm
        unfold AV at A ⊢
        rw [eau, esp w hw, e4, hp, h7, h10, h11, h12, hO 0 (by decide) (by decide), hO 1 (by decide) (by decide), hO 2 (by decide) (by decide), hO 3 (by decide) (by decide), hO 4 (by decide) (by decide), hO 5 (by decide) (by decide), hO 6 (by decide) (by decide), hO 8 (by decide) (by decide), hO 9 (by decide) (by decide), C 97 (by first | decide | omega), C 98 (by first | decide | omega), C 99 (by first | decide | omega), C 100 (by first | decide | omega), C 102 (by first | decide | omega), C 103 (by first | decide | omega), C 104 (by first | decide | omega)]
        obtain ⟨a1, a2, a3, a4, a5, a6, a7, a8, a9, a10, a11, a12, a13, a14, a15, a16⟩ := A
        exact ⟨a1.eq hS, a2.eq hS, a3, a4, a5, a6, a7, a8, a9, rfl, a11, rfl, rfl, rfl, a15.fx hFx hX (fun x q => q.cells (fun a q1 q2 => C a (by first | decide | omega))), a16⟩
      · exact ((h4 w hw).fx hFx hX (fun z => e (auA_inj gv0 hw hv z)) (au_sp gv0 hv hw).symm (by rw [C 37 (by first | decide | omega)]) (fun a q1 q2 => hj a w (by first | decide | omega) e) (fun _ y _ => by rw [hp]) (fun x q => q.cells (fun a q1 q2 => C a (by first | decide | omega)))).1
    · rw [eau, eau, esp w hw, esp x hx] at q
      exact h5 w x hw hx q
  · obtain ⟨h1, h2, h3, h4, h5, h6, h7', h8, h9, h10', h11'⟩ := gk
    have gk0 : GK S := ⟨h1, h2, h3, h4, h5, h6, h7', h8, h9, h10', h11'⟩
    have ecl : ∀ c, clA S' c = clA S c := fun c => by unfold clA; rw [C 44 (by first | decide | omega)]
    unfold GK nClaims
    rw [C 43 (by first | decide | omega), c72, C 45 (by first | decide | omega), C 46 (by first | decide | omega), C 47 (by first | decide | omega), C 48 (by first | decide | omega), C 49 (by first | decide | omega), C 111 (by first | decide | omega), C 115 (by first | decide | omega), C 117 (by first | decide | omega), C 146 (by first | decide | omega), C 147 (by first | decide | omega), C 148 (by first | decide | omega), C 149 (by first | decide | omega)]
    refine ⟨h1.fr (fun a q => C a (by first | decide | omega)) (fun k _ => by rw [c72]) hm, h2, h3, h4, fun c hc2 => ?_, fun c e q1 q2 q => ?_, h7', h8, h9, h10', h11'⟩
    · exact (h5 c hc2).re hS (C _ (by first | decide | omega)) (hF _ (gk0.ob hc2).1 (au_cl gv gk0 hv hc2).1.symm) (fun a q1 q2 => by rw [C a (by first | decide | omega)]) (by rw [hcb])
    · rw [ecl, ecl] at q
      exact h6 c e q1 q2 q
theorem o_strike (H : Inv S) (p : Int) : Ok L xs 21 255 [vi p] S := by
  have gv := H.gv
  have hn := gv.1.1
  have ht := H.gt.1
  by_cases hp : 0 ≤ p ∧ p < S.2 72 40
  · obtain ⟨v, hv⟩ := Int.eq_ofNat_of_zero_le hp.1
    subst hv
    obtain ⟨a1, a2, a3, a4, a5, a6, a7, a8, a9, a10, a11, a12, a13, a14, a15, a16⟩ := gv.2.2.2.1 v hp.2
    have h5 := a1.1
    have hq : (0 : Int) ≤ (v : Int) ∧ (v : Int) < 80 := by omega
    have h50 : ¬ auA S v = 0 := by omega
    by_cases hs : S.2 101 v = -1
    · have e1 : ∀ a, a < 151 → (wr S (auA S v) 7 (S.2 72 2)).2 a = S.2 a := fun a ha => wr_c (by first | decide | omega)
      have hRV : RV (wr S (auA S v) 7 (S.2 72 2)).2 := gv.1.fr (fun a ha => e1 a (by first | decide | omega)) (fun k _ => by rw [e1 72 (by decide)]) (by unfold HM; rw [e1 72 (by decide)]; omega)
      refine ⟨1, wr S (auA S v) 7 (S.2 72 2), wr (wr S (auA S v) 7 (S.2 72 2)) 101 v (S.2 72 2), ?_, ?_, ?_, Gw.of rfl⟩
      · rw [q_21, x_au gv hp.2, bR, Int.toNat_natCast, if_neg h50, g14a a1, k11 a1, rdvD h5, a10, if_pos hs, k11w a1, ht]
      · rw [q_255, m_isAu hRV, bR]
        simp only [bi_0, e1 72 (by decide), e1 101 (by decide), Int.toNat_natCast]
        rw [if_neg (fun z => z hp), if_pos hq, if_pos hs, if_pos hq]
      · refine H.au1 hp.2 rfl (fun a q1 q2 => by rw [wr_c (by first | decide | omega), wr_c q2]) (fun a q1 q2 _ _ _ => by rw [wr_c q2, wr_c (by first | decide | omega)]) (fun a j q1 q2 => ?_) (fun k q1 q2 => ?_) ?_ ?_ ?_ ?_
        · rw [wr_2, if_neg (fun z => q2 z.2), e1 a q1]
        · rw [wr_c (by first | decide | omega), wr_f, if_neg q1]
        · rw [wr_c (by first | decide | omega), wr_f, if_pos rfl, wr_f, if_pos rfl]
        · rw [wr_c (by first | decide | omega), wr_f, if_neg (by decide), wr_c (by decide), e1 105 (by decide), a12]
        · rw [wr_c (by first | decide | omega), wr_f, if_neg (by decide), wr_c (by decide), e1 106 (by decide), a13]
        · rw [wr_c (by first | decide | omega), wr_f, if_neg (by decide), wr_c (by decide), e1 107 (by decide), a14]
    · refine Ok.same (r := 0) H ?_ ?_
      · rw [q_21, x_au gv hp.2, bR, Int.toNat_natCast, if_neg h50, g14a a1, k11 a1, rdvD h5, a10, if_neg hs]
      · rw [q_255, m_isAu gv.1, bR]
        simp only [bi_0, Int.toNat_natCast]
        rw [if_neg (fun z => z hp), if_pos hq, if_neg hs]
  · refine Ok.same (r := 0) H ?_ ?_
    · rw [q_21, x_au0 gv hp, bR, if_pos (by decide)]
    · rw [q_255, m_isAu gv.1, bR]
      simp only [bi_0]
      rw [if_pos hp]
end
