/-! 40b.claims -/
section
variable {L : Nat} {xs : Nat → Int} {d : Nat} {S S' : AH} {o : Nat}
/-- claims and charges may change -/
theorem Inv.cgk (H : Inv S) (hS : S'.1 = S.1) (hF : ∀ a, 151 ≤ a → (∀ c : Nat, (c : Int) < S.2 72 52 → a ≠ clA S c) → S'.2 a = S.2 a) (hc : ∀ a, a < 151 → a ≠ 21 → a ≠ 43 → ¬ (46 ≤ a ∧ a ≤ 49) → a ≠ 72 → a ≠ 77 → a ≠ 114 → ¬ (118 ≤ a ∧ a ≤ 123) → ¬ (146 ≤ a ∧ a ≤ 149) → S'.2 a = S.2 a) (hk : ∀ k, k ≠ 102 → S'.2 72 k = S.2 72 k) (gp : GP S'.2) (gk : GK S') : Inv S' := by
  obtain ⟨i1, gt, gc, gx, gb, -, gl, gv, gk0, gu, gw, gn⟩ := H
  have hFx : Fx (fun a => ∃ c : Nat, (c : Int) < S.2 72 52 ∧ a = clA S c) S S' := by
    refine ⟨by rw [hS]; exact Nat.le_refl _, fun a q1 q2 => ⟨by rw [hS], fun q => hF a q1 (fun c hcl e => q ⟨c, hcl, e⟩)⟩⟩
  have hX : Xt (fun a => ∃ c : Nat, (c : Int) < S.2 72 52 ∧ a = clA S c) S := by
    rintro a ⟨c, q1, q2⟩
    have := (gk0.ob q1).2.2
    rw [q2, this]
    omega
  have C : ∀ a, a < 114 → a ≠ 21 → (a < 43 ∨ (43 < a ∧ a < 46) ∨ (49 < a ∧ a < 72) ∨ (72 < a ∧ a < 77) ∨ 77 < a) → S'.2 a = S.2 a := fun a q1 q2 q3 => hc a (by first | decide | omega) (by first | decide | omega) (by first | decide | omega) (by first | decide | omega) (by first | decide | omega) (by first | decide | omega) (by first | decide | omega) (by first | decide | omega) (by first | decide | omega)
  have C2 : ∀ a, (114 < a ∧ a < 118) ∨ (123 < a ∧ a < 146) → S'.2 a = S.2 a := fun a q1 => hc a (by first | decide | omega) (by first | decide | omega) (by first | decide | omega) (by first | decide | omega) (by first | decide | omega) (by first | decide | omega) (by first | decide | omega) (by first | decide | omega) (by first | decide | omega)
  have K := hk
  have c15 := C 15 (by first | decide | omega) (by first | decide | omega) (by first | decide | omega)
  have hm : HM S.2 S'.2 := by
    unfold HM
    rw [K 4 (by first | decide | omega), K 5 (by first | decide | omega)]
    omega
  refine ⟨by rw [hS]; exact i1, gt.fr (by rw [c15]) (K _ (by first | decide | omega)), gc.fr (by rw [c15]) (K _ (by first | decide | omega)), gx.fr (by rw [c15]) (K _ (by first | decide | omega)), ?_, gp, gl.fx hFx hX (fun a q => C a (by first | decide | omega) (by first | decide | omega) (by first | decide | omega)) (K _ (by first | decide | omega)) (fun t x _ q => q.cells (fun a q1 q2 => C a (by first | decide | omega) (by first | decide | omega) (by first | decide | omega))), ?_, gk, ?_, ?_, ?_⟩
  · exact gb.fr (by rw [c15]) (K _ (by first | decide | omega)) (C _ (by first | decide | omega) (by first | decide | omega) (by first | decide | omega)) (C _ (by first | decide | omega) (by first | decide | omega) (by first | decide | omega))
  · refine gv.fx hFx hX (fun v hv => ⟨?_, ?_⟩) (fun a q => ?_) (fun k _ => K k (by first | decide | omega)) hm ?_ ?_
    · rintro ⟨c, q1, q2⟩
      have z1 := (gk0.ob q1).2.2
      have z2 := (gv.2.2.2.1 v hv).1.2.2
      rw [q2, z1] at z2
      cases z2
    · rintro ⟨c, q1, q2⟩
      have z1 := (gk0.ob q1).2.2
      have z2 := (gv.2.2.2.1 v hv).2.1.2.2
      rw [q2, z1] at z2
      cases z2
    · by_cases q3 : a < 114
      · exact C a q3 (by first | decide | omega) (by first | decide | omega)
      · exact C2 a (by first | decide | omega)
    · exact pby_fr (C2 _ (by first | decide | omega)) (C2 _ (by first | decide | omega)) (C _ (by first | decide | omega) (by first | decide | omega) (by first | decide | omega)) (C _ (by first | decide | omega) (by first | decide | omega) (by first | decide | omega)) (C _ (by first | decide | omega) (by first | decide | omega) (by first | decide | omega)) (K _ (by first | decide | omega))
    · exact pct_fr (C2 _ (by first | decide | omega)) (C _ (by first | decide | omega) (by first | decide | omega) (by first | decide | omega)) (C _ (by first | decide | omega) (by first | decide | omega) (by first | decide | omega)) (K _ (by first | decide | omega))
  · refine gu.fr (K _ (by first | decide | omega)) (by rw [C 50 (by first | decide | omega) (by first | decide | omega) (by first | decide | omega)]) (by rw [C 50 (by first | decide | omega) (by first | decide | omega) (by first | decide | omega)]) (fun a ha => ?_)
    by_cases q3 : a < 114
    · exact C a q3 (by first | decide | omega) (by first | decide | omega)
    · exact C2 a (by first | decide | omega)
  · refine gw.fr (K _ (by first | decide | omega)) (K _ (by first | decide | omega)) (by rw [C 54 (by first | decide | omega) (by first | decide | omega) (by first | decide | omega)]) (by rw [C 54 (by first | decide | omega) (by first | decide | omega) (by first | decide | omega)]) (fun a ha => ?_)
    by_cases q3 : a < 114
    · exact C a q3 (by first | decide | omega) (by first | decide | omega)
    · exact C2 a (by first | decide | omega)
  · refine gn.fr (K _ (by first | decide | omega)) (K _ (by first | decide | omega)) (K _ (by first | decide | omega)) (by rw [C 63 (by first | decide | omega) (by first | decide | omega) (by first | decide | omega)]) (by rw [C 63 (by first | decide | omega) (by first | decide | omega) (by first | decide | omega)]) (by rw [C 63 (by first | decide | omega) (by first | decide | omega) (by first | decide | omega)]) (fun a ha => ?_)
    by_cases q3 : a < 114
    · exact C a q3 (by first | decide | omega) (by first | decide | omega)
    · exact C2 a (by first | decide | omega)
theorem AK.re {c : Nat} (H : AK S c) (hS : S'.1 = S.1) (h44 : S'.2 44 = S.2 44) (ho : S'.2 (clA S c) = S.2 (clA S c)) (hc : ∀ a, 108 ≤ a → a ≤ 123 → S'.2 a c = S.2 a c) (hb : cby S'.2 c = cby S.2 c) : AK S' c := by
  have ecl : clA S' c = clA S c := by unfold clA; rw [h44]
  unfold AK at H ⊢
  rw [ecl, ho, hb, hc 108 (by first | decide | omega) (by first | decide | omega), hc 109 (by first | decide | omega) (by first | decide | omega), hc 110 (by first | decide | omega) (by first | decide | omega), hc 111 (by first | decide | omega) (by first | decide | omega), hc 112 (by first | decide | omega) (by first | decide | omega), hc 113 (by first | decide | omega) (by first | decide | omega), hc 114 (by first | decide | omega) (by first | decide | omega), hc 115 (by first | decide | omega) (by first | decide | omega), hc 116 (by first | decide | omega) (by first | decide | omega), hc 118 (by first | decide | omega) (by first | decide | omega), hc 119 (by first | decide | omega) (by first | decide | omega), hc 120 (by first | decide | omega) (by first | decide | omega), hc 121 (by first | decide | omega) (by first | decide | omega), hc 122 (by first | decide | omega) (by first | decide | omega), hc 123 (by first | decide | omega) (by first | decide | omega)]
  refine ⟨?_, H.2⟩
  unfold isO
  rw [hS]
  exact H.1
end
