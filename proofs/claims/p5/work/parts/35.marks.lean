/-! made objects may change: frames that leave a set of addresses out -/
noncomputable def Fx (X : Nat → Prop) (S S' : AH) : Prop := S.1.1 ≤ S'.1.1 ∧ ∀ a, 151 ≤ a → a < S.1.1 → S'.1.2.2 a = S.1.2.2 a ∧ (¬ X a → S'.2 a = S.2 a)
/-- what the set holds is no part of a text -/
noncomputable def Xt (X : Nat → Prop) (S : AH) : Prop := ∀ a, X a → (S.1.2.2 a).1 = 3 ∨ (S.1.2.2 a).1 = 11 ∨ (S.1.2.2 a).1 = 12
section
variable {S S' : AH} {X : Nat → Prop}
theorem isO.fx {a t n : Nat} (h : isO S a t n) (hF : Fx X S S') : isO S' a t n := ⟨h.1, Nat.lt_of_lt_of_le h.2.1 hF.1, by rw [(hF.2 a h.1 h.2.1).1]; exact h.2.2⟩
theorem isO.cx {a t n : Nat} (h : isO S a t n) (hF : Fx X S S') (hx : ¬ X a) : S'.2 a = S.2 a := (hF.2 a h.1 h.2.1).2 hx
theorem isO.nx {a t n : Nat} (h : isO S a t n) (hX : Xt X S) (ht : t ≠ 3 ∧ t ≠ 11 ∧ t ≠ 12) : ¬ X a := by
  intro hx
  have := hX a hx
  rw [h.2.2] at this
  omega
theorem CX2.fx {a : Nat} {law : Bool} {x : TXT} (H : CX2 S a law x) (hF : Fx X S S') (hX : Xt X S) : CX2 S' a law x := by
  rcases H with H | ⟨h1, b, s, v, n, h2, h3, h4, h5, h6, h7, h8, h9, h10⟩
  · exact Or.inl H
  · have c1 := h1.cx hF (h1.nx hX (by decide))
    have c5 := h5.cx hF (h5.nx hX (by decide))
    have c6 := h6.cx hF (h6.nx hX (by decide))
    have c7 := h7.cx hF (h7.nx hX (by decide))
    refine Or.inr ⟨h1.fx hF, b, s, v, n, ?_, ?_, ?_, h5.fx hF, h6.fx hF, h7.fx hF, h8, ?_, fun j q hq => ?_⟩
    · rw [c1]; exact h2
    · rw [c1]; exact h3
    · rw [c1]; exact h4
    · have e : byt S'.2 b = byt S.2 b := by unfold byt; rw [c5]
      rw [e]; exact h9
    · rw [c6, c7]
      exact h10 j q hq
theorem TX.fx {a t : Nat} (H : TX S a t) (hF : Fx X S S') (hX : Xt X S) (ht : ∀ x, RX S.2 t x → RX S'.2 t x) : TX S' a t := by
  obtain ⟨x, h1, h2⟩ := H
  exact ⟨x, ht x h1, h2.fx hF hX⟩
theorem GL.fx (H : GL S) (hF : Fx X S S') (hX : Xt X S) (hc : ∀ a, (31 ≤ a ∧ a ≤ 34) ∨ a = 94 ∨ a = 95 → S'.2 a = S.2 a) (hk : S'.2 72 36 = S.2 72 36) (ht : ∀ t x, t < 20 → RX S.2 t x → RX S'.2 t x) : GL S' := by
  obtain ⟨h1, h2, h3, h4⟩ := H
  unfold GL
  rw [hc 31 (by first | decide | omega), hc 32 (by first | decide | omega), hc 33 (by first | decide | omega), hc 34 (by first | decide | omega), hc 94 (by first | decide | omega), hc 95 (by first | decide | omega), hk]
  exact ⟨h1, h2, h3, fun i hi => ⟨(h4 i hi).1, (h4 i hi).2.1, (h4 i hi).2.2.fx hF hX (fun x hx => ht i x (by first | decide | omega) hx)⟩⟩
theorem AV.fx {v : Nat} (H : AV S v) (hF : Fx X S S') (hX : Xt X S) (n1 : ¬ X (auA S v)) (n2 : ¬ X (spA S v)) (h37 : S'.2 37 v = S.2 37 v) (hc : ∀ a, 97 ≤ a → a ≤ 107 → S'.2 a v = S.2 a v) (hp : S.2 97 v ≠ 1 → ∀ y : Nat, y < 10 → pby S'.2 v y = pby S.2 v y) (ht : ∀ x, RX S.2 (20 + v) x → RX S'.2 (20 + v) x) : AV S' v ∧ auA S' v = auA S v ∧ spA S' v = spA S v := by
  have e1 : auA S' v = auA S v := by unfold auA; rw [h37]
  have e2 : S'.2 (auA S v) = S.2 (auA S v) := H.1.cx hF n1
  have e3 : spA S' v = spA S v := by
    unfold spA
    rw [e1, e2]
  refine ⟨?_, e1, e3⟩
  have e4 : S'.2 (spA S v) = S.2 (spA S v) := H.2.1.cx hF n2
  unfold AV at H ⊢
  rw [e1, e3, e2, e4, hc 97 (by first | decide | omega) (by first | decide | omega), hc 98 (by first | decide | omega) (by first | decide | omega), hc 99 (by first | decide | omega) (by first | decide | omega), hc 100 (by first | decide | omega) (by first | decide | omega), hc 101 (by first | decide | omega) (by first | decide | omega), hc 102 (by first | decide | omega) (by first | decide | omega), hc 103 (by first | decide | omega) (by first | decide | omega), hc 104 (by first | decide | omega) (by first | decide | omega), hc 105 (by first | decide | omega) (by first | decide | omega), hc 106 (by first | decide | omega) (by first | decide | omega), hc 107 (by first | decide | omega) (by first | decide | omega)]
  obtain ⟨a1, a2, a3, a4, a5, a6, a7, a8, a9, a10, a11, a12, a13, a14, a15, a16⟩ := H
  exact ⟨a1.fx hF, a2.fx hF, a3, a4, a5, a6, a7, a8, a9, a10, a11, a12, a13, a14, a15.fx hF hX ht, fun q y hy => by rw [hp q y hy]; exact a16 q y hy⟩
theorem GV.fx (H : GV S) (hF : Fx X S S') (hX : Xt X S) (hx : ∀ v : Nat, (v : Int) < S.2 72 40 → ¬ X (auA S v) ∧ ¬ X (spA S v)) (hc : ∀ a, (36 ≤ a ∧ a ≤ 42) ∨ (78 ≤ a ∧ a ≤ 85) ∨ (97 ≤ a ∧ a ≤ 107) ∨ (124 ≤ a ∧ a ≤ 127) → S'.2 a = S.2 a) (hk : ∀ k, k = 40 ∨ k = 70 → S'.2 72 k = S.2 72 k) (hm : HM S.2 S'.2) (hp : pby S'.2 = pby S.2) (hq : pct S'.2 = pct S.2) : GV S' := by
  obtain ⟨h1, h2, h3, h4, h5, h6, h7⟩ := H
  have k40 := hk 40 (by first | decide | omega)
  have hA : ∀ v : Nat, (v : Int) < S.2 72 40 → AV S' v ∧ auA S' v = auA S v ∧ spA S' v = spA S v := fun v hv => (h4 v hv).fx hF hX (hx v hv).1 (hx v hv).2 (by rw [hc 37 (by first | decide | omega)]) (fun a q1 q2 => by rw [hc a (by first | decide | omega)]) (fun _ y _ => by rw [hp]) (fun x q => q.cells (fun a q1 q2 => hc a (by first | decide | omega)))
  unfold GV
  rw [hq, hc 36 (by first | decide | omega), k40, hk 70 (by first | decide | omega), hc 38 (by first | decide | omega), hc 39 (by first | decide | omega), hc 40 (by first | decide | omega), hc 41 (by first | decide | omega), hc 42 (by first | decide | omega), hc 124 (by first | decide | omega), hc 125 (by first | decide | omega), hc 126 (by first | decide | omega), hc 127 (by first | decide | omega)]
  refine ⟨h1.fr (fun a q => hc a (by first | decide | omega)) hk hm, h2, h3, fun v hv => (hA v hv).1, fun v w hv hw q => ?_, h6, h7⟩
  obtain ⟨-, a1, a2⟩ := hA v hv
  obtain ⟨-, b1, b2⟩ := hA w hw
  rw [a1, a2, b1, b2] at q
  exact h5 v w hv hw q
/-- marks on claims: question, surcharge, drawn, tested and fault -/
theorem Inv.marks (H : Inv S) (hS : S'.1 = S.1) (hF : ∀ a, 151 ≤ a → (∀ c : Nat, (c : Int) < S.2 72 52 → a ≠ clA S c) → S'.2 a = S.2 a) (hc : ∀ a, a < 151 → a ≠ 46 → a ≠ 146 → ¬ (118 ≤ a ∧ a ≤ 122) → S'.2 a = S.2 a) (hst : ∀ y : Nat, y < 10 → S'.2 46 y = S'.2 146 y ∧ 0 ≤ S'.2 146 y ∧ S'.2 146 y ≤ 1000000000)
    (hO : ∀ c : Nat, (c : Int) < S.2 72 52 → (∀ k, ¬ (10 ≤ k ∧ k ≤ 13) → S'.2 (clA S c) k = S.2 (clA S c) k) ∧ S'.2 (clA S c) 10 = S'.2 118 c ∧ S'.2 (clA S c) 11 = S'.2 119 c ∧ S'.2 (clA S c) 12 = S'.2 120 c ∧ S'.2 (clA S c) 13 = (if S'.2 121 c = 1 then S'.2 122 c else -1))
    (hR : ∀ c : Nat, (c : Int) < S.2 72 52 → (S'.2 119 c = 0 ∨ S'.2 119 c = 1) ∧ (S'.2 120 c = 0 ∨ S'.2 120 c = 1) ∧ (S'.2 121 c = 0 ∨ S'.2 121 c = 1) ∧ 0 ≤ S'.2 122 c ∧ S'.2 122 c ≤ S.2 111 c) (hz : ∀ c : Nat, S.2 72 52 ≤ c → ∀ a, 118 ≤ a → a ≤ 122 → S'.2 a c = S.2 a c) : Inv S' := by
  obtain ⟨i1, gt, gc, gx, gb, gp, gl, gv, gk, gu, gw, gn⟩ := H
  obtain ⟨h1, h2, h3, h4, h5, h6, h7, h8, h9, h10, h11⟩ := gk
  have hFx : Fx (fun a => ∃ c : Nat, (c : Int) < S.2 72 52 ∧ a = clA S c) S S' := by
    refine ⟨by rw [hS]; exact Nat.le_refl _, fun a q1 q2 => ⟨by rw [hS], fun q => hF a q1 (fun c hcl e => q ⟨c, hcl, e⟩)⟩⟩
  have hX : Xt (fun a => ∃ c : Nat, (c : Int) < S.2 72 52 ∧ a = clA S c) S := by
    rintro a ⟨c, q1, q2⟩
    have := (h5 c q1).1.2.2
    rw [q2, this]
    omega
  have c' : ∀ a, a < 151 → a ≠ 46 → a ≠ 146 → ¬ (118 ≤ a ∧ a ≤ 122) → S'.2 a = S.2 a := hc
  have ecl : ∀ c, clA S' c = clA S c := fun c => by unfold clA; rw [hc 44 (by first | decide | omega) (by first | decide | omega) (by first | decide | omega) (by first | decide | omega)]
  have ecb : cby S'.2 = cby S.2 := cby_fr (hc 116 (by first | decide | omega) (by first | decide | omega) (by first | decide | omega) (by first | decide | omega)) (hc 97 (by first | decide | omega) (by first | decide | omega) (by first | decide | omega) (by first | decide | omega)) (hc 102 (by first | decide | omega) (by first | decide | omega) (by first | decide | omega) (by first | decide | omega))
  have C : ∀ a, a < 151 → a ≠ 46 → a ≠ 146 → (a < 118 ∨ 122 < a) → S'.2 a = S.2 a := fun a q1 q2 q3 q4 => hc a q1 q2 q3 (by first | decide | omega)
  have c72 := C 72 (by first | decide | omega) (by first | decide | omega) (by first | decide | omega) (by first | decide | omega)
  have c15 := C 15 (by first | decide | omega) (by first | decide | omega) (by first | decide | omega) (by first | decide | omega)
  have hm : HM S.2 S'.2 := by unfold HM; rw [c72]; omega
  refine ⟨by rw [hS]; exact i1, gt.fr (by rw [c15]) (by rw [c72]), gc.fr (by rw [c15]) (by rw [c72]), gx.fr (by rw [c15]) (by rw [c72]), ?_, ?_, gl.fx hFx hX (fun a q => C a (by first | decide | omega) (by first | decide | omega) (by first | decide | omega) (by first | decide | omega)) (by rw [c72]) (fun t x _ q => q.cells (fun a q1 q2 => C a (by first | decide | omega) (by first | decide | omega) (by first | decide | omega) (by first | decide | omega))), ?_, ?_, ?_, ?_, ?_⟩
  · exact gb.fr (by rw [c15]) (by rw [c72]) (C _ (by first | decide | omega) (by first | decide | omega) (by first | decide | omega) (by first | decide | omega)) (C _ (by first | decide | omega) (by first | decide | omega) (by first | decide | omega) (by first | decide | omega))
  · exact gp.fr (by rw [c72]) (by rw [c72]) (fun a ha => C a (by first | decide | omega) (by first | decide | omega) (by first | decide | omega) (by first | decide | omega))
  · refine gv.fx hFx hX (fun v hv => ⟨?_, ?_⟩) (fun a q => C a (by first | decide | omega) (by first | decide | omega) (by first | decide | omega) (by first | decide | omega)) (fun k _ => by rw [c72]) hm ?_ ?_
    · rintro ⟨c, q1, q2⟩
      have z1 := (h5 c q1).1.2.2
      have z2 := (gv.2.2.2.1 v hv).1.2.2
      rw [q2, z1] at z2
      cases z2
    · rintro ⟨c, q1, q2⟩
      have z1 := (h5 c q1).1.2.2
      have z2 := (gv.2.2.2.1 v hv).2.1.2.2
      rw [q2, z1] at z2
      cases z2
    · exact pby_fr (C _ (by first | decide | omega) (by first | decide | omega) (by first | decide | omega) (by first | decide | omega)) (C _ (by first | decide | omega) (by first | decide | omega) (by first | decide | omega) (by first | decide | omega)) (C _ (by first | decide | omega) (by first | decide | omega) (by first | decide | omega) (by first | decide | omega)) (C _ (by first | decide | omega) (by first | decide | omega) (by first | decide | omega) (by first | decide | omega)) (C _ (by first | decide | omega) (by first | decide | omega) (by first | decide | omega) (by first | decide | omega)) (by rw [c72])
    · exact pct_fr (C _ (by first | decide | omega) (by first | decide | omega) (by first | decide | omega) (by first | decide | omega)) (C _ (by first | decide | omega) (by first | decide | omega) (by first | decide | omega) (by first | decide | omega)) (C _ (by first | decide | omega) (by first | decide | omega) (by first | decide | omega) (by first | decide | omega)) (by rw [c72])
  · unfold GK nClaims
    rw [c72, C 43 (by first | decide | omega) (by first | decide | omega) (by first | decide | omega) (by first | decide | omega), C 45 (by first | decide | omega) (by first | decide | omega) (by first | decide | omega) (by first | decide | omega), C 47 (by first | decide | omega) (by first | decide | omega) (by first | decide | omega) (by first | decide | omega), C 48 (by first | decide | omega) (by first | decide | omega) (by first | decide | omega) (by first | decide | omega), C 49 (by first | decide | omega) (by first | decide | omega) (by first | decide | omega) (by first | decide | omega), C 111 (by first | decide | omega) (by first | decide | omega) (by first | decide | omega) (by first | decide | omega), C 115 (by first | decide | omega) (by first | decide | omega) (by first | decide | omega) (by first | decide | omega), C 117 (by first | decide | omega) (by first | decide | omega) (by first | decide | omega) (by first | decide | omega), C 147 (by first | decide | omega) (by first | decide | omega) (by first | decide | omega) (by first | decide | omega), C 148 (by first | decide | omega) (by first | decide | omega) (by first | decide | omega) (by first | decide | omega), C 149 (by first | decide | omega) (by first | decide | omega) (by first | decide | omega) (by first | decide | omega)]
    refine ⟨?_, h2, h3, h4, fun c q => ?_, fun c e q1 q2 q => h6 c e q1 q2 (by rw [← ecl, ← ecl]; exact q), h7, h8, h9, hst, h11⟩
    · obtain ⟨r1, r2, r3, r4, r5, r6⟩ := h1
      unfold RK
      rw [c72, C 97 (by first | decide | omega) (by first | decide | omega) (by first | decide | omega) (by first | decide | omega), C 108 (by first | decide | omega) (by first | decide | omega) (by first | decide | omega) (by first | decide | omega), C 109 (by first | decide | omega) (by first | decide | omega) (by first | decide | omega) (by first | decide | omega), C 110 (by first | decide | omega) (by first | decide | omega) (by first | decide | omega) (by first | decide | omega), C 111 (by first | decide | omega) (by first | decide | omega) (by first | decide | omega) (by first | decide | omega), C 112 (by first | decide | omega) (by first | decide | omega) (by first | decide | omega) (by first | decide | omega), C 113 (by first | decide | omega) (by first | decide | omega) (by first | decide | omega) (by first | decide | omega), C 114 (by first | decide | omega) (by first | decide | omega) (by first | decide | omega) (by first | decide | omega), C 115 (by first | decide | omega) (by first | decide | omega) (by first | decide | omega) (by first | decide | omega), C 116 (by first | decide | omega) (by first | decide | omega) (by first | decide | omega) (by first | decide | omega), C 117 (by first | decide | omega) (by first | decide | omega) (by first | decide | omega) (by first | decide | omega), C 123 (by first | decide | omega) (by first | decide | omega) (by first | decide | omega) (by first | decide | omega), C 147 (by first | decide | omega) (by first | decide | omega) (by first | decide | omega) (by first | decide | omega), C 148 (by first | decide | omega) (by first | decide | omega) (by first | decide | omega) (by first | decide | omega)]
      refine ⟨r1, r2, r3, fun c q => ?_, fun c q1 q2 => ?_, r6⟩
      · obtain ⟨a1, a2, a3, a4, a5, a6, a7, a8, a9, a10, a11, a12, a13⟩ := r4 c q
        obtain ⟨b1, b2, b3, b4, b5⟩ := hR c q
        exact ⟨a1, a2, a3, a4, a5, a6, a7, a8, b1, b2, b3, ⟨b4, b5⟩, a13⟩
      · have z := r5 c q1 q2
        rw [hz c q1 118 (by first | decide | omega) (by first | decide | omega), hz c q1 119 (by first | decide | omega) (by first | decide | omega), hz c q1 120 (by first | decide | omega) (by first | decide | omega), hz c q1 121 (by first | decide | omega) (by first | decide | omega), hz c q1 122 (by first | decide | omega) (by first | decide | omega)]
        exact z
    · have hA := h5 c q
      obtain ⟨o1, o2, o3, o4, o5⟩ := hO c q
      unfold AK at hA ⊢
      obtain ⟨a1, a2, a3, a4, a5, a6, a7, a8, a9, a10, a11, a12, a13, a14, a15, a16⟩ := hA
      rw [ecl, ecb, C 108 (by first | decide | omega) (by first | decide | omega) (by first | decide | omega) (by first | decide | omega), C 109 (by first | decide | omega) (by first | decide | omega) (by first | decide | omega) (by first | decide | omega), C 110 (by first | decide | omega) (by first | decide | omega) (by first | decide | omega) (by first | decide | omega), C 111 (by first | decide | omega) (by first | decide | omega) (by first | decide | omega) (by first | decide | omega), C 112 (by first | decide | omega) (by first | decide | omega) (by first | decide | omega) (by first | decide | omega), C 113 (by first | decide | omega) (by first | decide | omega) (by first | decide | omega) (by first | decide | omega), C 114 (by first | decide | omega) (by first | decide | omega) (by first | decide | omega) (by first | decide | omega), C 115 (by first | decide | omega) (by first | decide | omega) (by first | decide | omega) (by first | decide | omega), C 116 (by first | decide | omega) (by first | decide | omega) (by first | decide | omega) (by first | decide | omega), C 123 (by first | decide | omega) (by first | decide | omega) (by first | decide | omega) (by first | decide | omega), o1 0 (by first | decide | omega), o1 1 (by first | decide | omega), o1 2 (by first | decide | omega), o1 3 (by first | decide | omega), o1 4 (by first | decide | omega), o1 5 (by first | decide | omega), o1 6 (by first | decide | omega), o1 7 (by first | decide | omega), o1 8 (by first | decide | omega), o1 9 (by first | decide | omega), o1 14 (by first | decide | omega)]
      exact ⟨a1.fx hFx, a2, a3, a4, a5, a6, a7, a8, a9, a10, a11, o2, o3, o4, o5, a16⟩
  · exact gu.fr (by rw [c72]) (by rw [C 50 (by first | decide | omega) (by first | decide | omega) (by first | decide | omega) (by first | decide | omega)]) (by rw [C 50 (by first | decide | omega) (by first | decide | omega) (by first | decide | omega) (by first | decide | omega)]) (fun a ha => C a (by first | decide | omega) (by first | decide | omega) (by first | decide | omega) (by first | decide | omega))
  · exact gw.fr (by rw [c72]) (by rw [c72]) (by rw [C 54 (by first | decide | omega) (by first | decide | omega) (by first | decide | omega) (by first | decide | omega)]) (by rw [C 54 (by first | decide | omega) (by first | decide | omega) (by first | decide | omega) (by first | decide | omega)]) (fun a ha => C a (by first | decide | omega) (by first | decide | omega) (by first | decide | omega) (by first | decide | omega))
  · exact gn.fr (by rw [c72]) (by rw [c72]) (by rw [c72]) (by rw [C 63 (by first | decide | omega) (by first | decide | omega) (by first | decide | omega) (by first | decide | omega)]) (by rw [C 63 (by first | decide | omega) (by first | decide | omega) (by first | decide | omega) (by first | decide | omega)]) (by rw [C 63 (by first | decide | omega) (by first | decide | omega) (by first | decide | omega) (by first | decide | omega)]) (fun a ha => C a (by first | decide | omega) (by first | decide | omega) (by first | decide | omega) (by first | decide | omega))
end
