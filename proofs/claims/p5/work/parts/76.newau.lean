/-! a new authority -/
section
variable {L : Nat} {xs : Nat → Int} {d : Nat} {S T U S' W : AH}
theorem cby_bd (rv : RV S.2) (rk : RK S.2) {c : Nat} (hc : (c : Int) < S.2 72 52) : cby S.2 c < S.2 72 40 := by
  obtain ⟨-, -, -, -, -, -, r7, -⟩ := rk.2.2.2.1 c hc
  have hn := rv.1
  unfold cby
  by_cases q : S.2 116 c ≠ -1 ∧ S.2 97 (S.2 116 c).toNat = 4 ∧ S.2 102 (S.2 116 c).toNat ≠ -1
  · rw [if_pos q]
    have := (rv.2.1 (S.2 116 c).toNat (by first | decide | omega)).2.2.2.2.2.2.1 q.2.1
    omega
  · rw [if_neg q]
    omega
theorem pby_new (rv : RV S.2) (rk : RK S.2) {v : Int} (hv : S.2 72 40 ≤ v) (y : Int) : pby S.2 v y = 0 := by
  unfold pby
  have hn := rk.nC
  refine Eq.trans (sm_congr (g := fun _ => 0) (fun c hc => ?_)) (sm_zero _)
  have := cby_bd rv rk (c := c) (by first | decide | omega)
  exact if_neg (fun z => by omega)
/-- what a new authority is, in the reference's state -/
noncomputable def nwR (h : Nat → Nat → Int) (heads : Int) (old : Nat → Int) (oldY : Nat → Int) (n : Nat) : Prop := (0 ≤ h 97 n ∧ h 97 n ≤ 4) ∧ (0 ≤ h 98 n ∧ h 98 n < heads) ∧ (0 ≤ h 99 n ∧ h 99 n ≤ 1000000000) ∧ (0 ≤ h 100 n ∧ h 100 n ≤ 9) ∧ (0 ≤ h 104 n ∧ h 104 n < 3600) ∧
  (h 97 n = 1 → 0 ≤ h 102 n ∧ h 102 n < n ∧ old (h 102 n).toNat ≠ 1 ∧ h 100 n = oldY (h 102 n).toNat) ∧ (h 97 n ≠ 1 → h 102 n = -1)
theorem Inv.newA (H : Inv S) {n o p tx : Nat} (hn : S.2 72 40 = n) (hn80 : n < 80) (ho : S.1.1 ≤ o) (hp : S.1.1 ≤ p) (hop : isO S' o 11 14) (hpp : isO S' p 3 10) (hlen : S.1.1 ≤ S'.1.1) (hF : ∀ a, 151 ≤ a → a < S.1.1 → S'.1.2.2 a = S.1.2.2 a ∧ S'.2 a = S.2 a)
    (hc : ∀ a, a < 151 → a ≠ 36 → a ≠ 37 → a ≠ 72 → ¬ (78 ≤ a ∧ a ≤ 85) → ¬ (97 ≤ a ∧ a ≤ 104) → S'.2 a = S.2 a) (h36 : ∀ k, k ≠ 1 → S'.2 36 k = S.2 36 k) (e36 : S'.2 36 1 = (n : Int) + 1) (h72 : ∀ k, k ≠ 40 → S'.2 72 k = S.2 72 k) (e72 : S'.2 72 40 = (n : Int) + 1) (h37 : ∀ j, S'.2 37 j = if j = n then (o : Int) else S.2 37 j)
    (hj : ∀ a j, 97 ≤ a → a ≤ 104 → j ≠ n → S'.2 a j = S.2 a j) (ht : ∀ t x, t ≠ 20 + n → RX S.2 t x → RX S'.2 t x) (hR : nwR S'.2 (S.2 72 4) (S.2 97) (S.2 100) n)
    (hO : ∀ j, S'.2 o j = auF (S'.2 97 n) (S'.2 98 n) (S'.2 99 n) (S'.2 100 n) (S'.2 104 n) tx (if S'.2 97 n = 1 then S'.2 102 n else -1) p j) (hst : S'.2 101 n = -1) (hcd : S'.2 103 n = -1) (hsp : ∀ j, S'.2 p j = 0) (hT : TX S' tx (20 + n)) : Inv S' := by
  obtain ⟨i1, gt, gc, gx, gb, gp, gl, gv, gk, gu, gw, gn⟩ := H
  have hFx : Fx (fun _ => False) S S' := ⟨hlen, fun a q1 q2 => ⟨(hF a q1 q2).1, fun _ => (hF a q1 q2).2⟩⟩
  have hX : Xt (fun _ => False) S := fun a q => q.elim
  have C : ∀ a, a < 36 ∨ (37 < a ∧ a < 72) ∨ (72 < a ∧ a < 78) ∨ (85 < a ∧ a < 97) ∨ (104 < a ∧ a < 151) → S'.2 a = S.2 a := fun a q => hc a (by first | decide | omega) (by first | decide | omega) (by first | decide | omega) (by first | decide | omega) (by first | decide | omega) (by first | decide | omega)
  have c15 := C 15 (by first | decide | omega)
  have e20 : ∀ t, t < 20 → t ≠ 20 + n := fun t q => by omega
  have rv := gv.1
  have rk := gk.1
  have hcb : ∀ c : Nat, (c : Int) < S.2 72 52 → cby S'.2 c = cby S.2 c := fun c hc2 => by
    obtain ⟨-, -, -, -, -, -, r7, -⟩ := rk.2.2.2.1 c hc2
    unfold cby
    rw [C 116 (by first | decide | omega)]
    by_cases q : S.2 116 c = -1
    · rw [if_neg (fun z => z.1 q), if_neg (fun z => z.1 q)]
    · rw [hj 97 _ (by first | decide | omega) (by first | decide | omega) (show (S.2 116 c).toNat ≠ n by omega), hj 102 _ (by first | decide | omega) (by first | decide | omega) (show (S.2 116 c).toNat ≠ n by omega)]
  have hpb : ∀ v y, pby S'.2 v y = pby S.2 v y := fun v y => by
    have hnc := rk.nC
    unfold pby
    rw [pin_fr (h := S.2) (h' := S'.2) (C _ (by first | decide | omega)), C 111 (by first | decide | omega), show nClaims S'.2 = nClaims S.2 by unfold nClaims; rw [h72 _ (by decide)]]
    refine sm_congr (fun c hc2 => ?_)
    rw [hcb c (by first | decide | omega)]
  have hq : pct S'.2 = pct S.2 := pct_fr (C _ (by first | decide | omega)) (C _ (by first | decide | omega)) (C _ (by first | decide | omega)) (h72 _ (by decide))
  refine ⟨Nat.le_trans i1 hlen, gt.fr (by rw [c15]) (h72 _ (by decide)), gc.fr (by rw [c15]) (h72 _ (by decide)), gx.fr (by rw [c15]) (h72 _ (by decide)), gb.fr (by rw [c15]) (h72 _ (by decide)) (C _ (by first | decide | omega)) (C _ (by first | decide | omega)), gp.fr (h72 _ (by decide)) (h72 _ (by decide)) (fun a q => C a (by first | decide | omega)), gl.fx hFx hX (fun a q => C a (by first | decide | omega)) (h72 _ (by decide)) (fun t x q1 q => ht t x (e20 t q1) q), ?_, ?_, gu.fr (h72 _ (by decide)) (by rw [C 50 (by first | decide | omega)]) (by rw [C 50 (by first | decide | omega)]) (fun a q => C a (by first | decide | omega)), gw.fr (h72 _ (by decide)) (h72 _ (by decide)) (by rw [C 54 (by first | decide | omega)]) (by rw [C 54 (by first | decide | omega)]) (fun a q => C a (by first | decide | omega)), gn.fr (h72 _ (by decide)) (h72 _ (by decide)) (h72 _ (by decide)) (by rw [C 63 (by first | decide | omega)]) (by rw [C 63 (by first | decide | omega)]) (by rw [C 63 (by first | decide | omega)]) (fun a q => C a (by first | decide | omega))⟩
  · obtain ⟨h1, h2, h3, h4, h5, h6, h7⟩ := gv
    have hA : ∀ v : Nat, (v : Int) < S.2 72 40 → AV S' v ∧ auA S' v = auA S v ∧ spA S' v = spA S v := fun v hv => (h4 v hv).fx hFx hX (fun z => z) (fun z => z) (by rw [h37 v, if_neg (by first | decide | omega)]) (fun a q1 q2 => by
      by_cases q : a ≤ 104
      · exact hj a v q1 q (by first | decide | omega)
      · rw [C a (by first | decide | omega)]) (fun _ y _ => hpb _ _) (fun x q => ht _ x (by first | decide | omega) q)
    have aN : auA S' n = o := by
      unfold auA
      rw [h37 n, if_pos rfl]
      rfl
    have sN : spA S' n = p := by
      unfold spA
      rw [aN, hO 13]
      rfl
    have old : ∀ v : Nat, (v : Int) < S.2 72 40 → auA S v < S.1.1 ∧ spA S v < S.1.1 := fun v hv => ⟨(h4 v hv).1.2.1, (h4 v hv).2.1.2.1⟩
    obtain ⟨n1, n2, n3, n4, n5, n6, n7⟩ := hR
    obtain ⟨g1, g2, g3, g4, g5⟩ := h1
    unfold GV
    rw [hq, e72, e36, h36 7 (by decide), h72 70 (by decide), C 38 (by first | decide | omega), C 39 (by first | decide | omega), C 40 (by first | decide | omega), C 41 (by first | decide | omega), C 42 (by first | decide | omega), C 124 (by first | decide | omega), C 125 (by first | decide | omega), C 126 (by first | decide | omega), C 127 (by first | decide | omega)]
    refine ⟨?_, rfl, h3, fun v hv => ?_, fun v w hv hw q => ?_, h6, h7⟩
    · unfold RV
      rw [e72, h72 4 (by decide), h72 70 (by decide), C 105 (by first | decide | omega), C 106 (by first | decide | omega), C 107 (by first | decide | omega), C 124 (by first | decide | omega), C 125 (by first | decide | omega), C 126 (by first | decide | omega), C 127 (by first | decide | omega)]
      refine ⟨by omega, fun v hv => ?_, fun v q1 q2 => g3 v (by first | decide | omega) q2, g4, fun k hk => ?_⟩
      · by_cases e : v = n
        · subst e
          refine ⟨n1, n2, n3, n4, n5, fun z => ?_, fun z => Or.inl (n7 (by first | decide | omega)), fun z _ => n7 z⟩
          obtain ⟨m1, m2, m3, m4⟩ := n6 z
          have hne : (S'.2 102 v).toNat ≠ v := by omega
          rw [hj 97 _ (by first | decide | omega) (by first | decide | omega) hne, hj 100 (S'.2 102 v).toNat (by first | decide | omega) (by first | decide | omega) hne]
          exact ⟨m1, m2, m3, m4⟩
        · rw [hj 97 v (by first | decide | omega) (by first | decide | omega) e, hj 98 v (by first | decide | omega) (by first | decide | omega) e, hj 99 v (by first | decide | omega) (by first | decide | omega) e, hj 100 v (by first | decide | omega) (by first | decide | omega) e, hj 102 v (by first | decide | omega) (by first | decide | omega) e, hj 104 v (by first | decide | omega) (by first | decide | omega) e]
          obtain ⟨f1, f2, f3, f4, f5, f6, f7, f8⟩ := g2 v (by first | decide | omega)
          refine ⟨f1, f2, f3, f4, f5, fun z => ?_, fun z => ?_, f8⟩
          · have := f6 z
            have hne : (S.2 102 v).toNat ≠ n := by omega
            rw [hj 97 _ (by first | decide | omega) (by first | decide | omega) hne, hj 100 (S.2 102 v).toNat (by first | decide | omega) (by first | decide | omega) hne]
            exact this
          · rcases f7 z with x | x
            · exact Or.inl x
            · have hne : (S.2 102 v).toNat ≠ n := by omega
              rw [hj 97 _ (by first | decide | omega) (by first | decide | omega) hne]
              exact Or.inr ⟨x.1, by omega, x.2.2⟩
      · obtain ⟨f1, f2⟩ := g5 k hk
        have hne : (S.2 124 k).toNat ≠ n := by omega
        rw [hj 97 _ (by first | decide | omega) (by first | decide | omega) hne]
        exact ⟨⟨f1.1, by omega, f1.2.2⟩, f2⟩
    · by_cases e : v = n
      · subst e
        unfold AV
        rw [aN, sN, hO 0, hO 1, hO 2, hO 3, hO 4, hO 5, hO 6, hO 7, hO 8, hO 9, hO 10, hO 11, hO 12, hst, hcd, C 105 (by first | decide | omega), C 106 (by first | decide | omega), C 107 (by first | decide | omega), (g3 v (by first | decide | omega) (by first | decide | omega)).1, (g3 v (by first | decide | omega) (by first | decide | omega)).2.1, (g3 v (by first | decide | omega) (by first | decide | omega)).2.2]
        refine ⟨hop, hpp, rfl, rfl, rfl, rfl, rfl, rfl, ?_, rfl, rfl, rfl, rfl, rfl, hT, fun q y hy => ?_⟩
        · show (-1 : Int) = if S'.2 97 v = 1 then -1 else S'.2 102 v
          by_cases q : S'.2 97 v = 1
          · rw [if_pos q]
          · rw [if_neg q, n7 q]
        · rw [hpb, hsp, pby_new rv rk (by first | decide | omega)]
          exact ⟨rfl, fun _ _ => rfl⟩
      · exact (hA v (by first | decide | omega)).1
    · by_cases e : v = n
      · by_cases e2 : w = n
        · rw [e, e2]
        · obtain ⟨-, b1, b2⟩ := hA w (by first | decide | omega)
          have := old w (by first | decide | omega)
          rw [e, aN, sN, b1, b2] at q
          omega
      · obtain ⟨-, a1, a2⟩ := hA v (by first | decide | omega)
        have := old v (by first | decide | omega)
        by_cases e2 : w = n
        · rw [e2, aN, sN, a1, a2] at q
          omega
        · obtain ⟨-, b1, b2⟩ := hA w (by first | decide | omega)
          rw [a1, a2, b1, b2] at q
          exact h5 v w (by first | decide | omega) (by first | decide | omega) q
  · obtain ⟨h1, h2, h3, h4, h5, h6, h7, h8, h9, h10, h11⟩ := gk
    have gk0 : GK S := ⟨h1, h2, h3, h4, h5, h6, h7, h8, h9, h10, h11⟩
    have ecl : ∀ c, clA S' c = clA S c := fun c => by unfold clA; rw [C 44 (by first | decide | omega)]
    unfold GK nClaims
    rw [C 43 (by first | decide | omega), h72 52 (by decide), h72 53 (by decide), h72 102 (by decide), C 45 (by first | decide | omega), C 46 (by first | decide | omega), C 47 (by first | decide | omega), C 48 (by first | decide | omega), C 49 (by first | decide | omega), C 111 (by first | decide | omega), C 115 (by first | decide | omega), C 117 (by first | decide | omega), C 146 (by first | decide | omega), C 147 (by first | decide | omega), C 148 (by first | decide | omega), C 149 (by first | decide | omega)]
    refine ⟨?_, h2, h3, h4, fun c hc2 => ?_, fun c e q1 q2 q => ?_, h7, h8, h9, h10, h11⟩
    · obtain ⟨g1, g2, g3, g4, g5, g6⟩ := h1
      unfold RK
      rw [h72 52 (by decide), h72 53 (by decide), h72 102 (by decide), h72 4 (by decide), h72 5 (by decide), h72 70 (by decide), e72, C 108 (by first | decide | omega), C 109 (by first | decide | omega), C 110 (by first | decide | omega), C 111 (by first | decide | omega), C 112 (by first | decide | omega), C 113 (by first | decide | omega), C 114 (by first | decide | omega), C 115 (by first | decide | omega), C 116 (by first | decide | omega), C 117 (by first | decide | omega), C 118 (by first | decide | omega), C 119 (by first | decide | omega), C 120 (by first | decide | omega), C 121 (by first | decide | omega), C 122 (by first | decide | omega), C 123 (by first | decide | omega), C 147 (by first | decide | omega), C 148 (by first | decide | omega)]
      refine ⟨g1, g2, g3, fun c hc2 => ?_, g5, g6⟩
      obtain ⟨f1, f2, f3, f4, f5, f6, f7, f8⟩ := g4 c hc2
      refine ⟨f1, f2, f3, f4, f5, f6, ?_, f8⟩
      rcases f7 with z | z
      · exact Or.inl z
      · have hne : (S.2 116 c).toNat ≠ n := by omega
        rw [hj 97 _ (by first | decide | omega) (by first | decide | omega) hne]
        exact Or.inr ⟨z.1, ⟨z.2.1.1, by omega, z.2.1.2.2⟩, z.2.2⟩
    · have A := h5 c hc2
      have ob := gk0.ob hc2
      have eo := (hF _ ob.1 ob.2.1).2
      unfold AK at A ⊢
      rw [ecl, eo, hcb c hc2, C 108 (by first | decide | omega), C 109 (by first | decide | omega), C 110 (by first | decide | omega), C 111 (by first | decide | omega), C 112 (by first | decide | omega), C 113 (by first | decide | omega), C 114 (by first | decide | omega), C 115 (by first | decide | omega), C 116 (by first | decide | omega), C 118 (by first | decide | omega), C 119 (by first | decide | omega), C 120 (by first | decide | omega), C 121 (by first | decide | omega), C 122 (by first | decide | omega), C 123 (by first | decide | omega)]
      exact ⟨A.1.fx hFx, A.2⟩
    · rw [ecl, ecl] at q
      exact h6 c e q1 q2 q
end
