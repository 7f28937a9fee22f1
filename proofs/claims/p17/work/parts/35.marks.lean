section
-- 35.marks
/-! made objects may change: frames that leave a set of addresses out -/
noncomputable def Fx (X : Nat → Prop) (S S' : AH) : Prop := S.1.1 ≤ S'.1.1 ∧ ∀ a, 151 ≤ a → a < S.1.1 → S'.1.2.2 a = S.1.2.2 a ∧ (¬ X a → S'.2 a = S.2 a)
/-- what the set holds is no part of a text -/
noncomputable def Xt (X : Nat → Prop) (S : AH) : Prop := ∀ a, X a → (S.1.2.2 a).1 = 3 ∨ (S.1.2.2 a).1 = 11 ∨ (S.1.2.2 a).1 = 12
section
variable {S S' : AH} {X : Nat → Prop}
theorem isO.fx {a t n : Nat} (h : isO S a t n) (hF : Fx X S S') : isO S' a t n := ⟨h.1, Nat.lt_of_lt_of_le h.2.1 hF.1, by rw [(hF.2 a h.1 h.2.1).1]; exact h.2.2⟩
theorem isO.cx {a t n : Nat} (h : isO S a t n) (hF : Fx X S S') (hx : ¬ X a) : S'.2 a = S.2 a := (hF.2 a h.1 h.2.1).2 hx
theorem isO.nx {a t n : Nat} (h : isO S a t n) (hX : Xt X S) (ht : t ≠ 3 ∧ t ≠ 11 ∧ t ≠ 12) : ¬ X a := by
  intro hx
  have := hX a hx
  rw [h.2.2] at this
  omega
theorem CX2.fx {a : Nat} {law : Bool} {x : TXT} (H : CX2 S a law x) (hF : Fx X S S') (hX : Xt X S) : CX2 S' a law x := by
  rcases H with H | ⟨h1, b, s, v, n, h2, h3, h4, h5, h6, h7, h8, h9, h10⟩
  · exact Or.inl H
  · have c1 := h1.cx hF (h1.nx hX (by decide))
    have c5 := h5.cx hF (h5.nx hX (by decide))
    have c6 := h6.cx hF (h6.nx hX (by decide))
    have c7 := h7.cx hF (h7.nx hX (by decide))
    refine Or.inr ⟨h1.fx hF, b, s, v, n, ?_, ?_, ?_, h5.fx hF, h6.fx hF, h7.fx hF, h8, ?_, fun j q hq => ?_⟩
    · rw [c1]; exact h2
    · rw [c1]; exact h3
    · rw [c1]; exact h4
    · have e : byt S'.2 b = byt S.2 b := by unfold byt; rw [c5]
      rw [e]; exact h9
    · rw [c6, c7]
      exact h10 j q hq
theorem TX.fx {a t : Nat} (H : TX S a t) (hF : Fx X S S') (hX : Xt X S) (ht : ∀ x, RX S.2 t x → RX S'.2 t x) : TX S' a t := by
  obtain ⟨x, h1, h2⟩ := H
  exact ⟨x, ht x h1, h2.fx hF hX⟩
theorem GL.fx (H : GL S) (hF : Fx X S S') (hX : Xt X S) (hc : ∀ a, (31 ≤ a ∧ a ≤ 34) ∨ a = 94 ∨ a = 95 → S'.2 a = S.2 a) (hk : S'.2 72 36 = S.2 72 36) (ht : ∀ t x, t < 20 → RX S.2 t x → RX S'.2 t x) : GL S' := by
  obtain ⟨h1, h2, h3, h4⟩ := H
  unfold GL
  rw [hc 31 (by first | decide | omega), hc 32 (by first | decide | omega), hc 33 (by first | decide | omega), hc 34 (by first | decide | omega), hc 94 (by first | decide | omega), hc 95 (by first | decide | omega), hk]
  exact ⟨h1, h2, h3, fun i hi => ⟨(h4 i hi).1, (h4 i hi).2.1, (h4 i hi).2.2.fx hF hX (fun x hx => ht i x (by first | decide | omega) hx)⟩⟩
theorem AV.fx {v : Nat} (H : AV S v) (hF : Fx X S S') (hX : Xt X S) (n1 : ¬ X (auA S v)) (n2 : ¬ X (spA S v)) (h37 : S'.2 37 v = S.2 37 v) (hc : ∀ a, 97 ≤ a → a ≤ 107 → S'.2 a v = S.2 a v) (hp : S.2 97 v ≠ 1 → ∀ y : Nat, y < 10 → pby S'.2 v y = pby S.2 v y) (ht : ∀ x, RX S.2 (20 + v) x → RX S'.2 (20 + v) x) : AV S' v ∧ auA S' v = auA S v ∧ spA S' v = spA S v := by
  have e1 : auA S' v = auA S v := by unfold auA; rw [h37]
  have e2 : S'.2 (auA S v) = S.2 (auA S v) := H.1.cx hF n1
  have e3 : spA S' v = spA S v := by
    unfold spA
    rw [e1, e2]
  refine ⟨?_, e1, e3⟩
  have e4 : S'.2 (spA S v) = S.2 (spA S v) := H.2.1.cx hF n2
  unfold AV at H ⊢
  rw [e1, e3, e2, e4, hc 97 (by first | decide | omega) (by first | decide | omega), hc 98 (by first | decide | omega) (by first | decide | omega), hc 99 (by first | decide | omega) (by first | decide | omega), hc 100 (by first | decide | omega) (by first | decide | omega), hc 101 (by first | decide | omega) (by first | decide | omega), hc 102 (by first | decide | omega) (by first | decide | omega), hc 103 (by first | decide | omega) (by first | decide | omega), hc 104 (by first | decide | omega) (by first | decide | omega), hc 105 (by first | decide | omega) (by first | decide | omega), hc 106 (by first | decide | omega) (by first | decide | omega), hc 107 (by first | decide | omega) (by first | decide | omega)]
  obtain ⟨a1, a2, a3, a4, a5, a6, a7, a8, a9, a10, a11, a12, a13, a14, a15, a16⟩ := H
  exact ⟨a1.fx hF, a2.fx hF, a3, a4, a5, a6, a7, a8, a9, a10, a11, a12, a13, a14, a15.fx hF hX ht, fun q y hy => by rw [hp q y hy]; exact a16 q y hy⟩
theorem GV.fx (H : GV S) (hF : Fx X S S') (hX : Xt X S) (hx : ∀ v : Nat, (v : Int) < S.2 72 40 → ¬ X (auA S v) ∧ ¬ X (spA S v)) (hc : ∀ a, (36 ≤ a ∧ a ≤ 42) ∨ (78 ≤ a ∧ a ≤ 85) ∨ (97 ≤ a ∧ a ≤ 107) ∨ (124 ≤ a ∧ a ≤ 127) → S'.2 a = S.2 a) (hk : ∀ k, k = 40 ∨ k = 70 → S'.2 72 k = S.2 72 k) (hm : HM S.2 S'.2) (hp : pby S'.2 = pby S.2) (hq : pct S'.2 = pct S.2) : GV S' := by
  obtain ⟨h1, h2, h3, h4, h5, h6, h7⟩ := H
  have k40 := hk 40 (by first | decide | omega)
  have hA : ∀ v : Nat, (v : Int) < S.2 72 40 → AV S' v ∧ auA S' v = auA S v ∧ spA S' v = spA S v := fun v hv => (h4 v hv).fx hF hX (hx v hv).1 (hx v hv).2 (by rw [hc 37 (by first | decide | omega)]) (fun a q1 q2 => by rw [hc a (by first | decide | omega)]) (fun _ y _ => by rw [hp]) (fun x q => q.cells (fun a q1 q2 => hc a (by first | decide | omega)))
  unfold GV
  rw [hq, hc 36 (by first | decide | omega), k40, hk 70 (by first | decide | omega), hc 38 (by first | decide | omega), hc 39 (by first | decide | omega), hc 40 (by first | decide | omega), hc 41 (by first | decide | omega), hc 42 (by first | decide | omega), hc 124 (by first | decide | omega), hc 125 (by first | decide | omega), hc 126 (by first | decide | omega), hc 127 (by first | decide | omega)]
  refine ⟨h1.fr (fun a q => hc a (by first | decide | omega)) hk hm, h2, h3, fun v hv => (hA v hv).1, fun v w hv hw q => ?_, h6, h7⟩
  obtain ⟨-, a1, a2⟩ := hA v hv
  obtain ⟨-, b1, b2⟩ := hA w hw
  rw [a1, a2, b1, b2] at q
  exact h5 v w hv hw q
/-- marks on claims: question, surcharge, drawn, tested and fault -/
theorem Inv.marks (H : Inv S) (hS : S'.1 = S.1) (hF : ∀ a, 151 ≤ a → (∀ c : Nat, (c : Int) < S.2 72 52 → a ≠ clA S c) → S'.2 a = S.2 a) (hc : ∀ a, a < 151 → a ≠ 46 → a ≠ 146 → ¬ (118 ≤ a ∧ a ≤ 122) → S'.2 a = S.2 a) (hst : ∀ y : Nat, y < 10 → S'.2 46 y = S'.2 146 y ∧ 0 ≤ S'.2 146 y ∧ S'.2 146 y ≤ 1000000000)
    (hO : ∀ c : Nat, (c : Int) < S.2 72 52 → (∀ k, ¬ (10 ≤ k ∧ k ≤ 13) → S'.2 (clA S c) k = S.2 (clA S c) k) ∧ S'.2 (clA S c) 10 = S'.2 118 c ∧ S'.2 (clA S c) 11 = S'.2 119 c ∧ S'.2 (clA S c) 12 = S'.2 120 c ∧ S'.2 (clA S c) 13 = (if S'.2 121 c = 1 then S'.2 122 c else -1))
    (hR : ∀ c : Nat, (c : Int) < S.2 72 52 → (S'.2 119 c = 0 ∨ S'.2 119 c = 1) ∧ (S'.2 120 c = 0 ∨ S'.2 120 c = 1) ∧ (S'.2 121 c = 0 ∨ S'.2 121 c = 1) ∧ 0 ≤ S'.2 122 c ∧ S'.2 122 c ≤ S.2 111 c) (hz : ∀ c : Nat, S.2 72 52 ≤ c → ∀ a, 118 ≤ a → a ≤ 122 → S'.2 a c = S.2 a c) : Inv S' := by
  obtain ⟨i1, gt, gc, gx, gb, gp, gl, gv, gk, gu, gw, gn⟩ := H
  obtain ⟨h1, h2, h3, h4, h5, h6, h7, h8, h9, h10, h11⟩ := gk
  have hFx : Fx (fun a => ∃ c : Nat, (c : Int) < S.2 72 52 ∧ a = clA S c) S S' := by
    refine ⟨by rw [hS]; exact Nat.le_refl _, fun a q1 q2 => ⟨by rw [hS], fun q => hF a q1 (fun c hcl e => q ⟨c, hcl, e⟩)⟩⟩
  have hX : Xt (fun a => ∃ c : Nat, (c : Int) < S.2 72 52 ∧ a = clA S c) S := by
    rintro a ⟨c, q1, q2⟩
    have := (h5 c q1).1.2.2
    rw [q2, this]
    omega
  have c' : ∀ a, a < 151 → a ≠ 46 → a ≠ 146 → ¬ (118 ≤ a ∧ a ≤ 122) → S'.2 a = S.2 a := hc
  have ecl : ∀ c, clA S' c = clA S c := fun c => by unfold clA; rw [hc 44 (by first | decide | omega) (by first | decide | omega) (by first | decide | omega) (by first | decide | omega)]
  have ecb : cby S'.2 = cby S.2 := cby_fr (hc 116 (by first | decide | omega) (by first | decide | omega) (by first | decide | omega) (by first | decide | omega)) (hc 97 (by first | decide | omega) (by first | decide | omega) (by first | decide | omega) (by first | decide | omega)) (hc 102 (by first | decide | omega) (by first | decide | omega) (by first | decide | omega) (by first | decide | omega))
  have C : ∀ a, a < 151 → a ≠ 46 → a ≠ 146 → (a < 118 ∨ 122 < a) → S'.2 a = S.2 a := fun a q1 q2 q3 q4 => hc a q1 q2 q3 (by first | decide | omega)
  have c72 := C 72 (by first | decide | omega) (by first | decide | omega) (by first | decide | omega) (by first | decide | omega)
  have c15 := C 15 (by first | decide | omega) (by first | decide | omega) (by first | decide | omega) (by first | decide | omega)
  have hm : HM S.2 S'.2 := by unfold HM; rw [c72]; omega
  refine ⟨by rw [hS]; exact i1, gt.fr (by rw [c15]) (by rw [c72]), gc.fr (by rw [c15]) (by rw [c72]), gx.fr (by rw [c15]) (by rw [c72]), ?_, ?_, gl.fx hFx hX (fun a q => C a (by first | decide | omega) (by first | decide | omega) (by first | decide | omega) (by first | decide | omega)) (by rw [c72]) (fun t x _ q => q.cells (fun a q1 q2 => C a (by first | decide | omega) (by first | decide | omega) (by first | decide | omega) (by first | decide | omega))), ?_, ?_, ?_, ?_, ?_⟩
  · exact gb.fr (by rw [c15]) (by rw [c72]) (C _ (by first | decide | omega) (by first | decide | omega) (by first | decide | omega) (by first | decide | omega)) (C _ (by first | decide | omega) (by first | decide | omega) (by first | decide | omega) (by first | decide | omega))
  · exact gp.fr (by rw [c72]) (by rw [c72]) (fun a ha => C a (by first | decide | omega) (by first | decide | omega) (by first | decide | omega) (by first | decide | omega))
  · refine gv.fx hFx hX (fun v hv => ⟨?_, ?_⟩) (fun a q => C a (by first | decide | omega) (by first | decide | omega) (by first | decide | omega) (by first | decide | omega)) (fun k _ => by rw [c72]) hm ?_ ?_
    · rintro ⟨c, q1, q2⟩
      have z1 := (h5 c q1).1.2.2
      have z2 := (gv.2.2.2.1 v hv).1.2.2
      rw [q2, z1] at z2
      cases z2
    · rintro ⟨c, q1, q2⟩
      have z1 := (h5 c q1).1.2.2
      have z2 := (gv.2.2.2.1 v hv).2.1.2.2
      rw [q2, z1] at z2
      cases z2
    · exact pby_fr (C _ (by first | decide | omega) (by first | decide | omega) (by first | decide | omega) (by first | decide | omega)) (C _ (by first | decide | omega) (by first | decide | omega) (by first | decide | omega) (by first | decide | omega)) (C _ (by first | decide | omega) (by first | decide | omega) (by first | decide | omega) (by first | decide | omega)) (C _ (by first | decide | omega) (by first | decide | omega) (by first | decide | omega) (by first | decide | omega)) (C _ (by first | decide | omega) (by first | decide | omega) (by first | decide | omega) (by first | decide | omega)) (by rw [c72])
    · exact pct_fr (C _ (by first | decide | omega) (by first | decide | omega) (by first | decide | omega) (by first | decide | omega)) (C _ (by first | decide | omega) (by first | decide | omega) (by first | decide | omega) (by first | decide | omega)) (C _ (by first | decide | omega) (by first | decide | omega) (by first | decide | omega) (by first | decide | omega)) (by rw [c72])
  · unfold GK nClaims
    rw [c72, C 43 (by first | decide | omega) (by first | decide | omega) (by first | decide | omega) (by first | decide | omega), C 45 (by first | decide | omega) (by first | decide | omega) (by first | decide | omega) (by first | decide | omega), C 47 (by first | decide | omega) (by first | decide | omega) (by first | decide | omega) (by first | decide | omega), C 48 (by first | decide | omega) (by first | decide | omega) (by first | decide | omega) (by first | decide | omega), C 49 (by first | decide | omega) (by first | decide | omega) (by first | decide | omega) (by first | decide | omega), C 111 (by first | decide | omega) (by first | decide | omega) (by first | decide | omega) (by first | decide | omega), C 115 (by first | decide | omega) (by first | decide | omega) (by first | decide | omega) (by first | decide | omega), C 117 (by first | decide | omega) (by first | decide | omega) (by first | decide | omega) (by first | decide | omega), C 147 (by first | decide | omega) (by first | decide | omega) (by first | decide | omega) (by first | decide | omega), C 148 (by first | decide | omega) (by first | decide | omega) (by first | decide | omega) (by first | decide | omega), C 149 (by first | decide | omega) (by first | decide | omega) (by first | decide | omega) (by first | decide | omega)]
    refine ⟨?_, h2, h3, h4, fun c q => ?_, fun c e q1 q2 q => h6 c e q1 q2 (by rw [← ecl, ← ecl]; exact q), h7, h8, h9, hst, h11⟩
    · obtain ⟨r1, r2, r3, r4, r5, r6⟩ := h1
      unfold RK
      rw [c72, C 97 (by first | decide | omega) (by first | decide | omega) (by first | decide | omega) (by first | decide | omega), C 108 (by first | decide | omega) (by first | decide | omega) (by first | decide | omega) (by first | decide | omega), C 109 (by first | decide | omega) (by first | decide | omega) (by first | decide | omega) (by first | decide | omega), C 110 (by first | decide | omega) (by first | decide | omega) (by first | decide | omega) (by first | decide | omega), C 111 (by first | decide | omega) (by first | decide | omega) (by first | decide | omega) (by first | decide | omega), C 112 (by first | decide | omega) (by first | decide | omega) (by first | decide | omega) (by first | decide | omega), C 113 (by first | decide | omega) (by first | decide | omega) (by first | decide | omega) (by first | decide | omega), C 114 (by first | decide | omega) (by first | decide | omega) (by first | decide | omega) (by first | decide | omega), C 115 (by first | decide | omega) (by first | decide | omega) (by first | decide | omega) (by first | decide | omega), C 116 (by first | decide | omega) (by first | decide | omega) (by first | decide | omega) (by first | decide | omega), C 117 (by first | decide | omega) (by first | decide | omega) (by first | decide | omega) (by first | decide | omega), C 123 (by first | decide | omega) (by first | decide | omega) (by first | decide | omega) (by first | decide | omega), C 147 (by first | decide | omega) (by first | decide | omega) (by first | decide | omega) (by first | decide | omega), C 148 (by first | decide | omega) (by first | decide | omega) (by first | decide | omega) (by first | decide | omega)]
      refine ⟨r1, r2, r3, fun c q => ?_, fun c q1 q2 => ?_, r6⟩
      · obtain ⟨a1, a2, a3, a4, a5, a6, a7, a8, a9, a10, a11, a12, a13⟩ := r4 c q
        obtain ⟨b1, b2, b3, b4, b5⟩ := hR c q
        exact ⟨a1, a2, a3, a4, a5, a6, a7, a8, b1, b2, b3, ⟨b4, b5⟩, a13⟩
      · have z := r5 c q1 q2
        rw [hz c q1 118 (by first | decide | omega) (by first | decide | omega), hz c q1 119 (by first | decide | omega) (by first | decide | omega), hz c q1 120 (by first | decide | omega) (by first | decide | omega), hz c q1 121 (by first | decide | omega) (by first | decide | omega), hz c q1 122 (by first | decide | omega) (by first | decide | omega)]
        exact z
    · have hA := h5 c q
      obtain ⟨o1, o2, o3, o4, o5⟩ := hO c q
      unfold AK at hA ⊢
      obtain ⟨a1, a2, a3, a4, a5, a6, a7, a8, a9, a10, a11, a12, a13, a14, a15, a16⟩ := hA
      rw [ecl, ecb, C 108 (by first | decide | omega) (by first | decide | omega) (by first | decide | omega) (by first | decide | omega), C 109 (by first | decide | omega) (by first | decide | omega) (by first | decide | omega) (by first | decide | omega), C 110 (by first | decide | omega) (by first | decide | omega) (by first | decide | omega) (by first | decide | omega), C 111 (by first | decide | omega) (by first | decide | omega) (by first | decide | omega) (by first | decide | omega), C 112 (by first | decide | omega) (by first | decide | omega) (by first | decide | omega) (by first | decide | omega), C 113 (by first | decide | omega) (by first | decide | omega) (by first | decide | omega) (by first | decide | omega), C 114 (by first | decide | omega) (by first | decide | omega) (by first | decide | omega) (by first | decide | omega), C 115 (by first | decide | omega) (by first | decide | omega) (by first | decide | omega) (by first | decide | omega), C 116 (by first | decide | omega) (by first | decide | omega) (by first | decide | omega) (by first | decide | omega), C 123 (by first | decide | omega) (by first | decide | omega) (by first | decide | omega) (by first | decide | omega), o1 0 (by first | decide | omega), o1 1 (by first | decide | omega), o1 2 (by first | decide | omega), o1 3 (by first | decide | omega), o1 4 (by first | decide | omega), o1 5 (by first | decide | omega), o1 6 (by first | decide | omega), o1 7 (by first | decide | omega), o1 8 (by first | decide | omega), o1 9 (by first | decide | omega), o1 14 (by first | decide | omega)]
      exact ⟨a1.fx hFx, a2, a3, a4, a5, a6, a7, a8, a9, a10, a11, o2, o3, o4, o5, a16⟩
  · exact gu.fr (by rw [c72]) (by rw [C 50 (by first | decide | omega) (by first | decide | omega) (by first | decide | omega) (by first | decide | omega)]) (by rw [C 50 (by first | decide | omega) (by first | decide | omega) (by first | decide | omega) (by first | decide | omega)]) (fun a ha => C a (by first | decide | omega) (by first | decide | omega) (by first | decide | omega) (by first | decide | omega))
  · exact gw.fr (by rw [c72]) (by rw [c72]) (by rw [C 54 (by first | decide | omega) (by first | decide | omega) (by first | decide | omega) (by first | decide | omega)]) (by rw [C 54 (by first | decide | omega) (by first | decide | omega) (by first | decide | omega) (by first | decide | omega)]) (fun a ha => C a (by first | decide | omega) (by first | decide | omega) (by first | decide | omega) (by first | decide | omega))
  · exact gn.fr (by rw [c72]) (by rw [c72]) (by rw [c72]) (by rw [C 63 (by first | decide | omega) (by first | decide | omega) (by first | decide | omega) (by first | decide | omega)]) (by rw [C 63 (by first | decide | omega) (by first | decide | omega) (by first | decide | omega) (by first | decide | omega)]) (by rw [C 63 (by first | decide | omega) (by first | decide | omega) (by first | decide | omega) (by first | decide | omega)]) (fun a ha => C a (by first | decide | omega) (by first | decide | omega) (by first | decide | omega) (by first | decide | omega))
end
end
section
-- 36.test
/-! claims: access and marks -/
section
variable {L : Nat} {xs : Nat → Int} {d : Nat} {S S' : AH} {o : Nat}
theorem g14 (h : isO S o 12 15) (r : Rs) : gd (!(Nat.beq o 14)) r = r := by
  have : Nat.beq o 14 = false := by
    cases e : Nat.beq o 14 with
    | false => rfl
    | true =>
      have := Nat.eq_of_beq_eq_true e
      have := h.1
      omega
  rw [this]
  rfl
theorem k12 (h : isO S o 12 15) (r : Rs) : gd (Nat.beq (shp (WK L xs) S o).1 12) r = r := by
  rw [shpD h.1, h.2.2]
  rfl
theorem k12a (h : isO S o 12 15) (r : Rs) : gd (Nat.beq (shp (WK L xs) S o).1 12 && Nat.ble 0 8) r = r := by
  rw [shpD h.1, h.2.2]
  rfl
theorem k12b (h : isO S o 12 15) (r : Rs) : gd (Nat.beq (shp (WK L xs) S o).1 12 && Nat.ble 2 8) r = r := by
  rw [shpD h.1, h.2.2]
  rfl
theorem wokD {a k : Nat} (h : 151 ≤ a) : wok (WK L xs) a k = true := by
  have e : (WK L xs).2.2 a k = none := by
    rw [WK_fin (by first | decide | omega), show fnl.getD a [] = [] by rw [List.getD_eq_getElem?_getD, List.getElem?_eq_none (by rw [fnl_len2]; exact h)]; rfl]
    rfl
  unfold wok
  rw [e, Nat.ble_eq_true_of_le (by first | decide | omega)]
  rfl
theorem k12w {k : Nat} (h : isO S o 12 15) (r : Rs) : gd (Nat.beq (shp (WK L xs) S o).1 12 && wok (WK L xs) o k) r = r := by
  rw [shpD h.1, h.2.2, wokD h.1]
  rfl
theorem GK.ob (H : GK S) {c : Nat} (hc : (c : Int) < S.2 72 52) : isO S (clA S c) 12 15 := (H.2.2.2.2.1 c hc).1
theorem GK.n (H : GK S) : 0 ≤ S.2 72 52 ∧ S.2 72 52 ≤ 300 := H.1.1
theorem x_cl (H : GK S) {c : Nat} (hc : (c : Int) < S.2 72 52) : ev (WK L xs) (d + 1) 80 [vr 43, vi (c : Int)] S = some ((clA S c : Int), S) := by
  have := H.n
  rw [q_80, H.2.1, if_neg (by first | decide | omega), if_pos hc, if_pos (by first | decide | omega), Int.toNat_natCast]
  rfl
theorem x_cl0 (H : GK S) {p : Int} (hc : ¬ (0 ≤ p ∧ p < S.2 72 52)) : ev (WK L xs) (d + 1) 80 [vr 43, vi p] S = some (0, S) := by
  rw [q_80, H.2.1]
  by_cases h : p < 0
  · rw [if_pos h]
  · rw [if_neg h, if_neg (by first | decide | omega)]
theorem m_isClaim (H : RK S.2) (p : Int) : ev (WK L xs) (d + 2) 259 [vr 72, vi p] S = some (bi (0 ≤ p ∧ p < S.2 72 52), S) := by
  have := H.1
  rw [q_259, m_lies, bR, w32e (by first | decide | omega) (by first | decide | omega), if_pos (by rw [bi_01]; trivial)]
  congr 2
  apply bi_iff
  omega
theorem x_isPaid (h : isO S o 12 15) : ev (WK L xs) (d + 1) 76 [vr o] S = some (bi (S.2 o 7 ≠ -1), S) := by
  rw [q_76, k12 h, rdvD h.1, ite_bin]
theorem x_paidIn (h : isO S o 12 15) (y : Int) : ev (WK L xs) (d + 2) 75 [vr o, vi y] S = some (bi (S.2 o 7 ≠ -1 ∧ yr (S.2 o 7) = y), S) := by
  rw [q_75, k12a h, x_isPaid h, bR]
  simp only [bi_0]
  by_cases h1 : S.2 o 7 ≠ -1
  · rw [if_neg (fun z => z h1), k12 h, q_17, bR, rdvD h.1]
    show (if yr (S.2 o 7) = y then some (1, S) else some (0, S)) = _
    rw [ite_bi]
    congr 2
    apply bi_iff
    simp [h1]
  · rw [if_pos h1, bi_F (fun z => h1 z.1)]
theorem m_paidIn {c : Nat} (hc : c < 300) (y : Int) : ev (WK L xs) (d + 1) 248 [vr 72, vi (c : Int), vi y] S = some (bi (pin S.2 c y = true), S) := by
  rw [q_248, if_pos (by first | decide | omega), Int.toNat_natCast]
  unfold pin
  by_cases h1 : S.2 115 c = -1
  · rw [if_pos h1, bi_F (by simp [h1])]
  · rw [if_neg h1, if_pos (by first | decide | omega)]
    show (if yr (S.2 115 c) = y then some (1, S) else some (0, S)) = _
    rw [ite_bi]
    congr 2
    apply bi_iff
    simp [h1]
theorem Inv.mark1 (H : Inv S) {c : Nat} (hcl : (c : Int) < S.2 72 52) (hS : S'.1 = S.1) (hF : ∀ a, 151 ≤ a → a ≠ clA S c → S'.2 a = S.2 a) (hc : ∀ a, a < 151 → ¬ (118 ≤ a ∧ a ≤ 122) → S'.2 a = S.2 a) (hp : ∀ a j, 118 ≤ a → a ≤ 122 → j ≠ c → S'.2 a j = S.2 a j)
    (hO : (∀ k, ¬ (10 ≤ k ∧ k ≤ 13) → S'.2 (clA S c) k = S.2 (clA S c) k) ∧ S'.2 (clA S c) 10 = S'.2 118 c ∧ S'.2 (clA S c) 11 = S'.2 119 c ∧ S'.2 (clA S c) 12 = S'.2 120 c ∧ S'.2 (clA S c) 13 = (if S'.2 121 c = 1 then S'.2 122 c else -1))
    (hR : (S'.2 119 c = 0 ∨ S'.2 119 c = 1) ∧ (S'.2 120 c = 0 ∨ S'.2 120 c = 1) ∧ (S'.2 121 c = 0 ∨ S'.2 121 c = 1) ∧ 0 ≤ S'.2 122 c ∧ S'.2 122 c ≤ S.2 111 c) : Inv S' := by
  have gk := H.gk
  refine H.marks hS (fun a q1 q2 => hF a q1 (q2 c hcl)) (fun a q1 q2 q3 q4 => hc a q1 q4) (fun y hy => ?_) (fun e he => ?_) (fun e he => ?_) (fun e he a q1 q2 => hp a e q1 q2 (by first | decide | omega))
  · rw [hc 46 (by first | decide | omega) (by first | decide | omega), hc 146 (by first | decide | omega) (by first | decide | omega)]
    exact gk.2.2.2.2.2.2.2.2.2.1 y hy
  · by_cases hec : e = c
    · subst hec
      exact hO
    · have hn : clA S e ≠ clA S c := fun z => hec (gk.2.2.2.2.2.1 e c he hcl z)
      have hA := gk.2.2.2.2.1 e he
      rw [hF _ hA.1.1 hn, hp 118 e (by first | decide | omega) (by first | decide | omega) hec, hp 119 e (by first | decide | omega) (by first | decide | omega) hec, hp 120 e (by first | decide | omega) (by first | decide | omega) hec, hp 121 e (by first | decide | omega) (by first | decide | omega) hec, hp 122 e (by first | decide | omega) (by first | decide | omega) hec]
      obtain ⟨a1, a2, a3, a4, a5, a6, a7, a8, a9, a10, a11, a12, a13, a14, a15, a16⟩ := hA
      exact ⟨fun _ _ => rfl, a12, a13, a14, a15⟩
  · by_cases hec : e = c
    · subst hec
      exact hR
    · rw [hp 119 e (by first | decide | omega) (by first | decide | omega) hec, hp 120 e (by first | decide | omega) (by first | decide | omega) hec, hp 121 e (by first | decide | omega) (by first | decide | omega) hec, hp 122 e (by first | decide | omega) (by first | decide | omega) hec]
      obtain ⟨a1, a2, a3, a4, a5, a6, a7, a8, a9, a10, a11, a12, a13⟩ := gk.1.2.2.2.1 e he
      exact ⟨a9, a10, a11, a12⟩
theorem o_test (H : Inv S) (p q : Int) : Ok L xs 53 301 [vi p, vi q] S := by
  have gk := H.gk
  have hn := gk.n
  by_cases hp : 0 ≤ p ∧ p < S.2 72 52
  · obtain ⟨c, hc⟩ := Int.eq_ofNat_of_zero_le hp.1
    subst hc
    have ho := gk.ob hp.2
    have h5 := ho.1
    obtain ⟨a1, a2, a3, a4, a5, a6, a7, a8, a9, a10, a11, a12, a13, a14, a15, a16⟩ := gk.2.2.2.2.1 c hp.2
    obtain ⟨r1, r2, r3, r4, r5, r6, r7, r8, r9, r10, r11, r12, r13⟩ := gk.1.2.2.2.1 c hp.2
    have hq : (0 : Int) ≤ (c : Int) ∧ (c : Int) < 300 := by omega
    by_cases hk : S.2 120 c ≠ 0 ∧ (0 ≤ q ∧ q ≤ S.2 111 c)
    · refine ⟨1, wr S (clA S c) 13 q, wr (wr (wr S (clA S c) 13 q) 121 c 1) 122 c q, ?_, ?_, ?_, Gw.of rfl⟩
      · rw [q_53, x_cl gk hp.2, bR, Int.toNat_natCast, if_neg (by first | decide | omega), g14 ho, k12 ho, rdvD h5, a14, if_neg hk.1, if_neg (by first | decide | omega), k12 ho, rdvD h5, a5, if_neg (by first | decide | omega), k12w ho]
      · have e1 : ∀ a, a < 151 → (wr S (clA S c) 13 q).2 a = S.2 a := fun a ha => wr_c (by first | decide | omega)
        have hR' : RK (wr S (clA S c) 13 q).2 := gk.1.fr (fun a ha => e1 a (by first | decide | omega)) (fun k _ => by rw [e1 72 (by first | decide | omega)]) (by unfold HM; rw [e1 72 (by first | decide | omega)]; omega)
        rw [q_301, m_isClaim hR', bR]
        simp only [bi_0, e1 72 (by first | decide | omega), e1 120 (by first | decide | omega), e1 111 (by first | decide | omega), Int.toNat_natCast, m_lies, bR]
        rw [if_neg (fun z => z hp), if_pos hq, if_neg hk.1, if_pos hq, if_neg (fun z => z hk.2), if_pos hq, if_pos hq]
      · refine H.mark1 hp.2 rfl (fun a q1 q2 => ?_) (fun a q1 q2 => ?_) (fun a j q1 q2 q3 => ?_) ⟨fun k hk2 => ?_, ?_, ?_, ?_, ?_⟩ ?_
        · rw [wr_c (by first | decide | omega), wr_c (by first | decide | omega), wr_c q2]
        · rw [wr_c (by first | decide | omega), wr_c (by first | decide | omega), wr_c (by first | decide | omega)]
        · simp only [wr_2]
          rw [if_neg (fun z => q3 z.2), if_neg (fun z => q3 z.2), if_neg (by first | decide | omega)]
        · rw [wr_c (by first | decide | omega), wr_c (by first | decide | omega), wr_f, if_neg (by first | decide | omega)]
        · rw [wr_c (show clA S c ≠ 122 by omega), wr_c (show clA S c ≠ 121 by omega), wr_f, if_neg (by decide), wr_c (by decide), wr_c (by decide), wr_c (by first | decide | omega), a12]
        · rw [wr_c (show clA S c ≠ 122 by omega), wr_c (show clA S c ≠ 121 by omega), wr_f, if_neg (by decide), wr_c (by decide), wr_c (by decide), wr_c (by first | decide | omega), a13]
        · rw [wr_c (show clA S c ≠ 122 by omega), wr_c (show clA S c ≠ 121 by omega), wr_f, if_neg (by decide), wr_c (by decide), wr_c (by decide), wr_c (by first | decide | omega), a14]
        · rw [wr_c (show clA S c ≠ 122 by omega), wr_c (show clA S c ≠ 121 by omega), wr_f, if_pos rfl, wr_c (show (121 : Nat) ≠ 122 by decide), wr_f, if_pos rfl, if_pos rfl, wr_f, if_pos rfl]
        · rw [wr_c (show (119 : Nat) ≠ 122 by decide), wr_c (show (119 : Nat) ≠ 121 by decide), wr_c (show 119 ≠ clA S c by omega), wr_c (show (120 : Nat) ≠ 122 by decide), wr_c (show (120 : Nat) ≠ 121 by decide), wr_c (show 120 ≠ clA S c by omega), wr_c (show (121 : Nat) ≠ 122 by decide), wr_f, wr_f, if_pos rfl, if_pos rfl]
          exact ⟨r9, r10, Or.inr rfl, hk.2⟩
    · refine Ok.same (r := 0) H ?_ ?_
      · rw [q_53, x_cl gk hp.2, bR, Int.toNat_natCast, if_neg (by first | decide | omega), g14 ho, k12 ho, rdvD h5, a14]
        by_cases h1 : S.2 120 c = 0
        · rw [if_pos h1]
        · rw [if_neg h1]
          by_cases h2 : q < 0
          · rw [if_pos h2]
          · rw [if_neg h2, k12 ho, rdvD h5, a5, if_pos (by first | decide | omega)]
      · rw [q_301, m_isClaim gk.1, bR]
        simp only [bi_0, Int.toNat_natCast, m_lies, bR]
        rw [if_neg (fun z => z hp), if_pos hq]
        by_cases h1 : S.2 120 c = 0
        · rw [if_pos h1]
        · rw [if_neg h1, if_pos hq, if_pos (fun z => hk ⟨h1, z⟩)]
  · refine Ok.same (r := 0) H ?_ ?_
    · rw [q_53, x_cl0 gk hp, bR, if_pos (by decide)]
    · rw [q_301, m_isClaim gk.1, bR]
      simp only [bi_0]
      rw [if_pos hp]
theorem o_question (H : Inv S) (p : Int) : Ok L xs 55 303 [vi p] S := by
  have gk := H.gk
  have hn := gk.n
  by_cases hp : 0 ≤ p ∧ p < S.2 72 52
  · obtain ⟨c, hc⟩ := Int.eq_ofNat_of_zero_le hp.1
    subst hc
    have ho := gk.ob hp.2
    have h5 := ho.1
    obtain ⟨a1, a2, a3, a4, a5, a6, a7, a8, a9, a10, a11, a12, a13, a14, a15, a16⟩ := gk.2.2.2.2.1 c hp.2
    obtain ⟨r1, r2, r3, r4, r5, r6, r7, r8, r9, r10, r11, r12, r13⟩ := gk.1.2.2.2.1 c hp.2
    have hq : (0 : Int) ≤ (c : Int) ∧ (c : Int) < 300 := by omega
    by_cases hk : S.2 115 c ≠ -1 ∧ S.2 118 c = 0
    · refine ⟨1, wr S (clA S c) 10 1, wr (wr S (clA S c) 10 1) 118 c 1, ?_, ?_, ?_, Gw.of rfl⟩
      · rw [q_55, x_cl gk hp.2, bR, Int.toNat_natCast, if_neg (by first | decide | omega), g14 ho, k12a ho, x_isPaid ho, bR]
        simp only [bi_0]
        rw [a9, if_neg (fun z => z hk.1), k12 ho, rdvD h5, a12, if_pos hk.2, k12w ho]
      · have e1 : ∀ a, a < 151 → (wr S (clA S c) 10 1).2 a = S.2 a := fun a ha => wr_c (by first | decide | omega)
        have hR' : RK (wr S (clA S c) 10 1).2 := gk.1.fr (fun a ha => e1 a (by first | decide | omega)) (fun k _ => by rw [e1 72 (by first | decide | omega)]) (by unfold HM; rw [e1 72 (by first | decide | omega)]; omega)
        rw [q_303, m_isClaim hR', bR]
        simp only [bi_0, e1 72 (by first | decide | omega), e1 115 (by first | decide | omega), e1 118 (by first | decide | omega), Int.toNat_natCast, bR]
        rw [if_neg (fun z => z hp), if_pos hq, if_neg hk.1, if_pos hq, if_pos hk.2, if_pos hq]
      · refine H.mark1 hp.2 rfl (fun a q1 q2 => ?_) (fun a q1 q2 => ?_) (fun a j q1 q2 q3 => ?_) ⟨fun k hk2 => ?_, ?_, ?_, ?_, ?_⟩ ?_
        · rw [wr_c (by first | decide | omega), wr_c q2]
        · rw [wr_c (by first | decide | omega), wr_c (by first | decide | omega)]
        · simp only [wr_2]
          rw [if_neg (fun z => q3 z.2), if_neg (by first | decide | omega)]
        · rw [wr_c (by first | decide | omega), wr_f, if_neg (by first | decide | omega)]
        · rw [wr_c (show clA S c ≠ 118 by omega), wr_f, if_pos rfl, wr_f, if_pos rfl]
        · rw [wr_c (show clA S c ≠ 118 by omega), wr_f, if_neg (by decide), wr_c (by decide), wr_c (by first | decide | omega), a13]
        · rw [wr_c (show clA S c ≠ 118 by omega), wr_f, if_neg (by decide), wr_c (by decide), wr_c (by first | decide | omega), a14]
        · rw [wr_c (show clA S c ≠ 118 by omega), wr_f, if_neg (by decide), wr_c (show (121 : Nat) ≠ 118 by decide), wr_c (show 121 ≠ clA S c by omega), wr_c (show (122 : Nat) ≠ 118 by decide), wr_c (show 122 ≠ clA S c by omega), a15]
        · rw [wr_c (show (119 : Nat) ≠ 118 by decide), wr_c (show 119 ≠ clA S c by omega), wr_c (show (120 : Nat) ≠ 118 by decide), wr_c (show 120 ≠ clA S c by omega), wr_c (show (121 : Nat) ≠ 118 by decide), wr_c (show 121 ≠ clA S c by omega), wr_c (show (122 : Nat) ≠ 118 by decide), wr_c (show 122 ≠ clA S c by omega)]
          exact ⟨r9, r10, r11, r12⟩
    · refine Ok.same (r := 0) H ?_ ?_
      · rw [q_55, x_cl gk hp.2, bR, Int.toNat_natCast, if_neg (by first | decide | omega), g14 ho, k12a ho, x_isPaid ho, bR]
        simp only [bi_0]
        rw [a9]
        by_cases h1 : S.2 115 c ≠ -1
        · rw [if_neg (fun z => z h1), k12 ho, rdvD h5, a12, if_neg (fun z => hk ⟨h1, z⟩)]
        · rw [if_pos h1]
      · rw [q_303, m_isClaim gk.1, bR]
        simp only [bi_0, Int.toNat_natCast]
        rw [if_neg (fun z => z hp), if_pos hq]
        by_cases h1 : S.2 115 c = -1
        · rw [if_pos h1]
        · rw [if_neg h1, if_pos hq, if_neg (fun z => hk ⟨h1, z⟩)]
  · refine Ok.same (r := 0) H ?_ ?_
    · rw [q_55, x_cl0 gk hp, bR, if_pos (by decide)]
    · rw [q_303, m_isClaim gk.1, bR]
      simp only [bi_0]
      rw [if_pos hp]
end
end
section
-- 37.found
/-! drawn, found, sum -/
/-- the claim c is tested, and was paid in y -/
noncomputable def tst (h : Nat → Nat → Int) (c : Nat) (y : Int) : Bool := decide (pin h c y = true ∧ h 120 c ≠ 0 ∧ h 121 c = 1)
noncomputable def dwL (f : Nat → Bool) (want : Int) : Nat → Nat → Int → Int
  | 0, _, _ => -1
  | m + 1, c, k => if f c = true then (if k = want then (c : Int) else dwL f want m (c + 1) (k + 1)) else dwL f want m (c + 1) k
/-- what the claim c adds to what is found -/
noncomputable def fT (h : Nat → Nat → Int) (y what : Int) (c : Nat) : Int := if what = 0 then (if tst h c y = true then h 122 c else 0) else if what = 1 then (if tst h c y = true then (if h 111 c < h 146 y.toNat then ldiv (w64 (h 122 c * h 146 y.toNat)) (h 111 c) else h 122 c) else 0) else (if pin h c y = true then (if tst h c y = true then h 122 c else h 111 c) else 0)
section
variable {L : Nat} {xs : Nat → Int} {d : Nat} {S S' : AH} {o : Nat}
theorem nC (H : GK S) : S.2 72 52 = (nClaims S.2 : Int) ∧ nClaims S.2 ≤ 300 := by
  have := H.n
  unfold nClaims
  omega
theorem x_tst (H : GK S) {c : Nat} (hc : (c : Int) < S.2 72 52) (y : Int) : ev (WK L xs) (d + 3) 78 [vr (clA S c), vi y] S = some (bi (tst S.2 c y = true), S) := by
  have h := H.ob hc
  obtain ⟨a1, a2, a3, a4, a5, a6, a7, a8, a9, a10, a11, a12, a13, a14, a15, a16⟩ := H.2.2.2.2.1 c hc
  obtain ⟨r1, r2, r3, r4, r5, r6, r7, r8, r9, r10, r11, r12, r13⟩ := H.1.2.2.2.1 c hc
  rw [q_78, k12 h, rdvD h.1, a14]
  unfold tst pin
  by_cases h1 : S.2 120 c = 0
  · rw [if_pos h1, bi_F (by simp [h1])]
  · rw [if_neg h1, k12 h, rdvD h.1, a15]
    by_cases h2 : S.2 121 c = 1
    · rw [if_pos h2, if_neg (by first | decide | omega), k12a h, x_paidIn h, bR, a9]
      simp only [bi_0]
      rw [ite_bin]
      congr 2
      apply bi_iff
      simp [h1, h2]
    · rw [if_neg h2, if_pos rfl, bi_F (by simp [h2])]
theorem x_pin (H : GK S) {c : Nat} (hc : (c : Int) < S.2 72 52) (y : Int) : ev (WK L xs) (d + 2) 75 [vr (clA S c), vi y] S = some (bi (pin S.2 c y = true), S) := by
  have h := H.ob hc
  rw [x_paidIn h, (H.2.2.2.2.1 c hc).2.2.2.2.2.2.2.2.1]
  congr 2
  apply bi_iff
  unfold pin
  simp
theorem o_drawn (H : Inv S) (p q : Int) : Ok L xs 52 300 [vi p, vi q] S := by
  have gk := H.gk
  obtain ⟨hn, hn3⟩ := nC gk
  by_cases hp : (0 ≤ p ∧ p < 10) ∧ ¬ q < 0
  · have kx : ∀ (m c : Nat) (k : Int), c + m = nClaims S.2 → 0 ≤ k → k ≤ c → LQ (WK L xs) (ev (WK L xs) 198) 86 5 [some (vr 43), some (vi p), some (vi q), some (vi k), some (vi (c : Int)), none] [] S = some (dwL (fun c => decide (pin S.2 c p = true ∧ S.2 120 c ≠ 0)) q m c k, S) := by
      intro m
      induction m with
      | zero =>
        intro c k hc h0 hk
        rw [q_86_5, gk.2.1, hn, if_neg (by first | decide | omega)]
        rfl
      | succ m ih =>
        intro c k hc h0 hk
        have hcl : (c : Int) < S.2 72 52 := by omega
        have ho := gk.ob hcl
        have h5 := ho.1
        have e1 : (c : Int) + 1 = ((c + 1 : Nat) : Int) := by omega
        have i1 := ih (c + 1) k (by first | decide | omega) h0 (by first | decide | omega)
        have i2 := ih (c + 1) (k + 1) (by first | decide | omega) (by first | decide | omega) (by first | decide | omega)
        rw [q_86_5, gk.2.1, if_pos hcl, x_cl gk hcl, bR, Int.toNat_natCast, if_neg (by first | decide | omega), g14 ho, k12 ho, rdvD h5, (gk.2.2.2.2.1 c hcl).2.2.2.2.2.2.2.2.2.2.2.2.2.1, k12a ho, x_pin gk hcl, bR, w32e (x := (c : Int) + 1) (by first | decide | omega) (by first | decide | omega), w32e (x := k + 1) (by first | decide | omega) (by first | decide | omega), e1, i1, i2]
        simp only [bi_0, dwL, decide_eq_true_eq]
        by_cases h1 : S.2 120 c = 0
        · rw [if_pos h1, if_neg (fun z => z.2 h1)]
        · rw [if_neg h1]
          by_cases h2 : pin S.2 c p = true
          · rw [if_neg (fun z => z h2), if_pos (show pin S.2 c p = true ∧ S.2 120 c ≠ 0 from ⟨h2, h1⟩)]
            by_cases h3 : k = q
            · rw [if_pos h3, if_pos h3]
            · rw [if_neg h3, if_neg h3]
          · rw [if_pos h2, if_neg (fun z => h2 z.1)]
    have km : ∀ (m c : Nat) (k : Int), c + m = nClaims S.2 → 0 ≤ k → k ≤ c → LQ (WK L xs) (ev (WK L xs) 199) 300 23 [some (vr 72), some (vi p), some (vi q), some (vi k), some (vi (c : Int))] [] S = some (dwL (fun c => decide (pin S.2 c p = true ∧ S.2 120 c ≠ 0)) q m c k, S) := by
      intro m
      induction m with
      | zero =>
        intro c k hc h0 hk
        rw [q_300_23, hn, if_neg (by first | decide | omega)]
        rfl
      | succ m ih =>
        intro c k hc h0 hk
        have e1 : (c : Int) + 1 = ((c + 1 : Nat) : Int) := by omega
        have i1 := ih (c + 1) k (by first | decide | omega) h0 (by first | decide | omega)
        have i2 := ih (c + 1) (k + 1) (by first | decide | omega) (by first | decide | omega) (by first | decide | omega)
        rw [q_300_23, hn, if_pos (by first | decide | omega), m_paidIn (by first | decide | omega), bR, w32e (x := (c : Int) + 1) (by first | decide | omega) (by first | decide | omega), w32e (x := k + 1) (by first | decide | omega) (by first | decide | omega), e1, i1, i2, if_pos (show (0 : Int) ≤ (c : Int) ∧ (c : Int) < 300 by omega), Int.toNat_natCast]
        simp only [bi_0, dwL, decide_eq_true_eq]
        by_cases h2 : pin S.2 c p = true
        · rw [if_neg (fun z => z h2)]
          by_cases h1 : S.2 120 c = 0
          · rw [if_pos h1, if_neg (fun z => z.2 h1)]
          · rw [if_neg h1, if_pos (show pin S.2 c p = true ∧ S.2 120 c ≠ 0 from ⟨h2, h1⟩)]
            by_cases h3 : k = q
            · rw [if_pos h3, if_pos h3]
            · rw [if_neg h3, if_neg h3]
        · rw [if_pos h2, if_neg (fun z => h2 z.1)]
    refine Ok.same (r := dwL (fun c => decide (pin S.2 c p = true ∧ S.2 120 c ≠ 0)) q (nClaims S.2) 0 0) H ?_ ?_
    · rw [q_52, x_isYear, bR]
      simp only [bi_0]
      rw [if_neg (fun z => z hp.1), if_neg hp.2, q_86]
      exact (congrArg (bindR · _) (kx (nClaims S.2) 0 0 (by first | decide | omega) (by first | decide | omega) (by first | decide | omega))).trans rfl
    · rw [q_300, m_lies, bR]
      simp only [bi_0]
      rw [if_neg (by first | decide | omega), if_neg hp.2]
      exact km (nClaims S.2) 0 0 (by first | decide | omega) (by first | decide | omega) (by first | decide | omega)
  · refine Ok.same (r := -1) H ?_ ?_
    · rw [q_52, x_isYear, bR]
      simp only [bi_0]
      by_cases h1 : 0 ≤ p ∧ p < 10
      · rw [if_neg (fun z => z h1), if_pos (by first | decide | omega)]
      · rw [if_pos h1]
    · rw [q_300, m_lies, bR]
      simp only [bi_0]
      by_cases h1 : 0 ≤ p ∧ p < 10
      · rw [if_neg (by first | decide | omega), if_pos (by first | decide | omega)]
      · rw [if_pos (by first | decide | omega)]
theorem m_fnd (gk : GK S) {p q : Int} (hp : 0 ≤ p ∧ p < 10) (hq : 0 ≤ q ∧ q ≤ 2) : ∀ (m c : Nat), c + m = nClaims S.2 → LQ (WK L xs) (ev (WK L xs) (d + 1)) 302 33 [some (vr 72), some (vi p), some (vi q), some (vl (w64 (sm (fT S.2 p q) c))), none, some (vi (c : Int)), none] [] S = some (w64 (sm (fT S.2 p q) (nClaims S.2)), S) := by
  obtain ⟨hn, hn3⟩ := nC gk
  intro m
  induction m with
  | zero =>
    intro c hc
    have e : c = nClaims S.2 := by omega
    rw [q_302_33, hn, if_neg (by first | decide | omega), e]
  | succ m ih =>
    intro c hc
    have hcl : (c : Int) < S.2 72 52 := by omega
    obtain ⟨r1, r2, r3, r4, r5, r6, r7, r8, r9, r10, r11, r12, r13⟩ := gk.1.2.2.2.1 c hcl
    have e1 : (c : Int) + 1 = ((c + 1 : Nat) : Int) := by omega
    have hq3 : (0 : Int) ≤ (c : Int) ∧ (c : Int) < 300 := by omega
    have nx : ∀ t : Int, fT S.2 p q c = t → LQ (WK L xs) (ev (WK L xs) (d + 1)) 302 33 [some (vr 72), some (vi p), some (vi q), some (vl (w64 (w64 (sm (fT S.2 p q) c) + t))), none, some (vi ((c + 1 : Nat) : Int)), none] [] S = some (w64 (sm (fT S.2 p q) (nClaims S.2)), S) := by
      intro t ht
      rw [w64_al, ← ht, ← sm_su (fT S.2 p q) c]
      exact ih (c + 1) (by first | decide | omega)
    have n0 : fT S.2 p q c = 0 → LQ (WK L xs) (ev (WK L xs) (d + 1)) 302 33 [some (vr 72), some (vi p), some (vi q), some (vl (w64 (sm (fT S.2 p q) c))), none, some (vi ((c + 1 : Nat) : Int)), none] [] S = some (w64 (sm (fT S.2 p q) (nClaims S.2)), S) := by
      intro h0
      have := nx 0 h0
      rw [Int.add_zero, w64e (w64_r _).1 (w64_r _).2] at this
      exact this
    rw [q_302_33, hn, if_pos (by first | decide | omega), m_paidIn (by first | decide | omega), bR, w32e (x := (c : Int) + 1) (by first | decide | omega) (by first | decide | omega), e1, if_pos hq3, Int.toNat_natCast]
    simp only [bi_0]
    by_cases h1 : pin S.2 c p = true
    · rw [if_neg (fun z => z h1)]
      have hno : tst S.2 c p = false → LQ (WK L xs) (ev (WK L xs) (d + 1)) 302 80 [some (vr 72), some (vi p), some (vi q), some (vl (w64 (sm (fT S.2 p q) c))), none, some (vi (c : Int)), none] [vi 0] S = some (w64 (sm (fT S.2 p q) (nClaims S.2)), S) := by
        intro ht
        rw [q_302_80, if_pos rfl, if_pos rfl, if_pos hq3, Int.toNat_natCast, w32e (x := (c : Int) + 1) (by first | decide | omega) (by first | decide | omega), e1]
        by_cases h2 : q = 2
        · rw [if_pos h2]
          refine nx _ ?_
          unfold fT
          rw [if_neg (by first | decide | omega), if_neg (by first | decide | omega), if_pos h1, ht, if_neg (by decide)]
        · rw [if_neg h2, q_302_140, if_pos rfl, w32e (x := (c : Int) + 1) (by first | decide | omega) (by first | decide | omega), e1]
          refine n0 ?_
          unfold fT
          rw [ht]
          by_cases h0 : q = 0
          · rw [if_pos h0, if_neg (by decide)]
          · rw [if_neg h0, if_pos (by first | decide | omega), if_neg (by decide)]
      by_cases h2 : S.2 120 c = 0
      · rw [if_pos h2]
        exact hno (by unfold tst; simp [h2])
      · rw [if_neg h2, if_pos hq3]
        by_cases h3 : S.2 121 c = 0
        · rw [if_pos h3]
          exact hno (by unfold tst; simp [h3])
        · have ht : tst S.2 c p = true := by
            unfold tst
            simp only [decide_eq_true_eq]
            exact ⟨h1, h2, by omega⟩
          rw [if_neg h3, q_302_80, if_neg (show ¬ (1 : Int) = 0 by decide), if_neg (show ¬ (1 : Int) = 0 by decide), if_pos hq3, Int.toNat_natCast, w32e (x := (c : Int) + 1) (by first | decide | omega) (by first | decide | omega), e1]
          by_cases h4 : q = 2
          · rw [if_pos h4]
            refine nx _ ?_
            unfold fT
            rw [if_neg (by first | decide | omega), if_neg (by first | decide | omega), if_pos h1, if_pos ht]
          · rw [if_neg h4]
            by_cases h5 : q = 0
            · rw [if_pos h5]
              refine nx _ ?_
              unfold fT
              rw [if_pos h5, if_pos ht]
            · have h6 : q = 1 := by omega
              rw [if_neg h5, q_302_140, if_neg (by decide), if_pos hq3, if_pos hp, if_pos hq3, if_pos hp, if_pos hq3, if_pos hq3, Int.toNat_natCast, w32e (x := (c : Int) + 1) (by first | decide | omega) (by first | decide | omega), e1, if_neg (show ¬ S.2 111 c = 0 by omega)]
              by_cases h7 : S.2 111 c < S.2 146 p.toNat
              · rw [if_pos h7]
                refine nx _ ?_
                unfold fT
                rw [if_neg h5, if_pos h6, if_pos ht, if_pos h7]
              · rw [if_neg h7]
                refine nx _ ?_
                unfold fT
                rw [if_neg h5, if_pos h6, if_pos ht, if_neg h7]
    · rw [if_pos h1]
      refine n0 ?_
      have ht : tst S.2 c p = false := by
        unfold tst
        simp [h1]
      unfold fT
      rw [if_neg h1, ht]
      simp
theorem x_fnd0 (gk : GK S) (p : Int) : ∀ (m c : Nat), c + m = nClaims S.2 → LQ (WK L xs) (ev (WK L xs) (d + 3)) 87 5 [some (vr 43), some (vi p), some (vl (w64 (sm (fT S.2 p 0) c))), none, some (vi (c : Int)), none] [] S = some (w64 (sm (fT S.2 p 0) (nClaims S.2)), S) := by
  obtain ⟨hn, hn3⟩ := nC gk
  intro m
  induction m with
  | zero =>
    intro c hc
    have e : c = nClaims S.2 := by omega
    rw [q_87_5, gk.2.1, hn, if_neg (by first | decide | omega), e]
  | succ m ih =>
    intro c hc
    have hcl : (c : Int) < S.2 72 52 := by omega
    have ho := gk.ob hcl
    have h5 := ho.1
    have e1 : (c : Int) + 1 = ((c + 1 : Nat) : Int) := by omega
    have hi := ih (c + 1) (by first | decide | omega)
    have hs := sm_su (fT S.2 p 0) c
    have hv : fT S.2 p 0 c = if tst S.2 c p = true then S.2 122 c else 0 := rfl
    rw [q_87_5, gk.2.1, if_pos hcl, x_cl gk hcl, bR, Int.toNat_natCast, if_neg (by first | decide | omega), g14 ho, k12a ho, x_tst gk hcl, bR, w32e (x := (c : Int) + 1) (by first | decide | omega) (by first | decide | omega), e1, k12 ho, rdvD h5, (gk.2.2.2.2.1 c hcl).2.2.2.2.2.2.2.2.2.2.2.2.2.2.1, w64_al]
    simp only [bi_0]
    by_cases h1 : tst S.2 c p = true
    · have h2 : S.2 121 c = 1 := by
        unfold tst at h1
        simp only [decide_eq_true_eq] at h1
        exact h1.2.2
      rw [if_pos h1] at hv
      rw [if_neg (fun z => z h1), if_pos h2, ← hv, ← hs]
      exact hi
    · rw [if_neg h1] at hv
      rw [if_pos h1]
      rw [hs, hv, Int.add_zero] at hi
      exact hi
theorem x_fnd2 (gk : GK S) (p : Int) : ∀ (m c : Nat), c + m = nClaims S.2 → LQ (WK L xs) (ev (WK L xs) (d + 3)) 89 5 [some (vr 43), some (vi p), some (vl (w64 (sm (fT S.2 p 2) c))), none, some (vi (c : Int)), none] [] S = some (w64 (sm (fT S.2 p 2) (nClaims S.2)), S) := by
  obtain ⟨hn, hn3⟩ := nC gk
  intro m
  induction m with
  | zero =>
    intro c hc
    have e : c = nClaims S.2 := by omega
    rw [q_89_5, gk.2.1, hn, if_neg (by first | decide | omega), e]
  | succ m ih =>
    intro c hc
    have hcl : (c : Int) < S.2 72 52 := by omega
    have ho := gk.ob hcl
    have h5 := ho.1
    have e1 : (c : Int) + 1 = ((c + 1 : Nat) : Int) := by omega
    have hi := ih (c + 1) (by first | decide | omega)
    have hs := sm_su (fT S.2 p 2) c
    have hv : fT S.2 p 2 c = if pin S.2 c p = true then (if tst S.2 c p = true then S.2 122 c else S.2 111 c) else 0 := rfl
    rw [q_89_5, gk.2.1, if_pos hcl, x_cl gk hcl, bR, Int.toNat_natCast, if_neg (by first | decide | omega), g14 ho, k12a ho, x_pin gk hcl, bR, w32e (x := (c : Int) + 1) (by first | decide | omega) (by first | decide | omega), e1, k12b ho, x_tst gk hcl, bR, k12 ho, rdvD h5, rdvD h5, (gk.2.2.2.2.1 c hcl).2.2.2.2.2.2.2.2.2.2.2.2.2.2.1, (gk.2.2.2.2.1 c hcl).2.2.2.2.1, w64_al, w64_al, k12 ho]
    simp only [bi_0]
    by_cases h0 : pin S.2 c p = true
    · rw [if_pos h0] at hv
      rw [if_neg (fun z => z h0)]
      by_cases h1 : tst S.2 c p = true
      · have h2 : S.2 121 c = 1 := by
          unfold tst at h1
          simp only [decide_eq_true_eq] at h1
          exact h1.2.2
        rw [if_pos h1] at hv
        rw [if_neg (fun z => z h1), if_pos h2, ← hv, ← hs]
        exact hi
      · rw [if_neg h1] at hv
        rw [if_pos h1, ← hv, ← hs]
        exact hi
    · rw [if_neg h0] at hv
      rw [if_pos h0]
      rw [hs, hv, Int.add_zero] at hi
      exact hi
theorem x_fnd1 (gk : GK S) {p : Int} (hp : 0 ≤ p ∧ p < 10) : ∀ (m c : Nat), c + m = nClaims S.2 → LQ (WK L xs) (ev (WK L xs) (d + 3)) 88 25 [some (vr 43), some (vi p), some (vl (S.2 146 p.toNat)), none, some (vl (w64 (sm (fT S.2 p 1) c))), none, some (vi (c : Int)), none, none] [] S = some (w64 (sm (fT S.2 p 1) (nClaims S.2)), S) := by
  obtain ⟨hn, hn3⟩ := nC gk
  intro m
  induction m with
  | zero =>
    intro c hc
    have e : c = nClaims S.2 := by omega
    rw [q_88_25, gk.2.1, hn, if_neg (by first | decide | omega), e]
  | succ m ih =>
    intro c hc
    have hcl : (c : Int) < S.2 72 52 := by omega
    have ho := gk.ob hcl
    have h5 := ho.1
    obtain ⟨r1, r2, r3, r4, r5, r6, r7, r8, r9, r10, r11, r12, r13⟩ := gk.1.2.2.2.1 c hcl
    have e1 : (c : Int) + 1 = ((c + 1 : Nat) : Int) := by omega
    have hi := ih (c + 1) (by first | decide | omega)
    have hs := sm_su (fT S.2 p 1) c
    have hv : fT S.2 p 1 c = (if tst S.2 c p = true then (if S.2 111 c < S.2 146 p.toNat then ldiv (w64 (S.2 122 c * S.2 146 p.toNat)) (S.2 111 c) else S.2 122 c) else 0) := rfl
    rw [q_88_25, gk.2.1, if_pos hcl, x_cl gk hcl, bR, Int.toNat_natCast, if_neg (by first | decide | omega), g14 ho, k12a ho, x_tst gk hcl, bR, w32e (x := (c : Int) + 1) (by first | decide | omega) (by first | decide | omega), e1, k12 ho, rdvD h5, (gk.2.2.2.2.1 c hcl).2.2.2.2.1, k12 ho]
    simp only [bi_0, lc_lt]
    by_cases h1 : tst S.2 c p = true
    · have h2 : S.2 121 c = 1 := by
        unfold tst at h1
        simp only [decide_eq_true_eq] at h1
        exact h1.2.2
      rw [if_pos h1] at hv
      rw [if_neg (fun z => z h1), if_neg (show ¬ S.2 111 c < 1 by omega), q_88_84, q_88_84, if_pos (show (0 : Int) = 0 from rfl), if_neg (show ¬ (1 : Int) = 0 by decide), k12 ho, k12 ho, rdvD h5, rdvD h5, (gk.2.2.2.2.1 c hcl).2.2.2.2.1, (gk.2.2.2.2.1 c hcl).2.2.2.2.2.2.2.2.2.2.2.2.2.2.1, if_pos h2, if_neg (show ¬ S.2 111 c = 0 by omega), k12 ho, w32e (x := (c : Int) + 1) (by first | decide | omega) (by first | decide | omega), e1, w64_al, w64_al]
      by_cases h3 : S.2 111 c < S.2 146 p.toNat
      · rw [if_pos h3] at hv
        rw [if_pos h3, ← hv, ← hs]
        exact hi
      · rw [if_neg h3] at hv
        rw [if_neg h3, ← hv, ← hs]
        exact hi
    · rw [if_neg h1] at hv
      rw [if_pos h1]
      rw [hs, hv, Int.add_zero] at hi
      exact hi
theorem o_found (H : Inv S) (p q : Int) : Ok L xs 54 302 [vi p, vi q] S := by
  have gk := H.gk
  by_cases hp : (0 ≤ p ∧ p < 10) ∧ (0 ≤ q ∧ q ≤ 2)
  · refine Ok.same (r := w64 (sm (fT S.2 p q) (nClaims S.2))) H ?_ ?_
    · rw [q_54, x_isYear, bR]
      simp only [bi_0]
      rw [if_neg (fun z => z hp.1)]
      by_cases h0 : q = 0
      · subst h0
        rw [if_pos rfl, q_87]
        exact (congrArg (bindR · _) (x_fnd0 (L := L) (xs := xs) (d := 195) gk p (nClaims S.2) 0 (by first | decide | omega))).trans rfl
      · rw [if_neg h0]
        by_cases h1 : q = 1
        · subst h1
          rw [if_pos rfl, q_88, x_isYear, bR]
          simp only [bi_0]
          rw [if_neg (fun z => z hp.1), if_pos hp.1, (gk.2.2.2.2.2.2.2.2.2.1 p.toNat (by first | decide | omega)).1]
          exact (congrArg (bindR · _) (x_fnd1 (L := L) (xs := xs) (d := 195) gk hp.1 (nClaims S.2) 0 (by first | decide | omega))).trans rfl
        · have h2 : q = 2 := by omega
          subst h2
          rw [if_neg h1, if_pos rfl, q_89]
          exact (congrArg (bindR · _) (x_fnd2 (L := L) (xs := xs) (d := 195) gk p (nClaims S.2) 0 (by first | decide | omega))).trans rfl
    · rw [q_302, m_lies, bR]
      simp only [bi_0]
      rw [if_neg (by first | decide | omega), m_lies, bR]
      simp only [bi_0]
      rw [if_neg (by first | decide | omega)]
      exact m_fnd (d := 198) gk hp.1 hp.2 (nClaims S.2) 0 (by first | decide | omega)
  · refine Ok.same (r := -1) H ?_ ?_
    · rw [q_54, x_isYear, bR]
      simp only [bi_0]
      by_cases h1 : 0 ≤ p ∧ p < 10
      · rw [if_neg (fun z => z h1), if_neg (by first | decide | omega), if_neg (by first | decide | omega), if_neg (by first | decide | omega)]
      · rw [if_pos h1]
    · rw [q_302, m_lies, bR]
      simp only [bi_0]
      by_cases h1 : 0 ≤ p ∧ p < 10
      · rw [if_neg (by first | decide | omega), m_lies, bR]
        simp only [bi_0]
        rw [if_pos (by first | decide | omega)]
      · rw [if_pos (by first | decide | omega)]
end
end
section
-- 38.sum
/-! sum -/
section
variable {L : Nat} {xs : Nat → Int} {d : Nat} {S S' : AH}
/-- what is owed on loans -/
noncomputable def owd (h : Nat → Nat → Int) (i : Nat) : Int := if h 145 i = -1 then h 142 i else 0
noncomputable def oweS (h : Nat → Nat → Int) : Int := w64 (sm (owd h) (h 72 93).toNat)
theorem x_owed (H : GN S.2) : ev (WK L xs) (d + 1) 113 [vr 63] S = some (oweS S.2, S) := by
  obtain ⟨-, -, -, ⟨l1, l2⟩, l3, l4, l5⟩ := H
  have key : ∀ (m i : Nat), i + m = (S.2 72 93).toNat → LQ (WK L xs) (ev (WK L xs) d) 113 4 [some (vr 63), some (vl (w64 (sm (owd S.2) i))), none, some (vi (i : Int))] [] S = some (oweS S.2, S) := by
    intro m
    induction m with
    | zero =>
      intro i hi
      rw [q_113_4, l3, if_neg (by first | decide | omega), show i = (S.2 72 93).toNat by omega]
      rfl
    | succ m ih =>
      intro i hi
      obtain ⟨⟨a1, a2, a3, a4⟩, -⟩ := l5 i (by first | decide | omega)
      have e1 : (i : Int) + 1 = ((i + 1 : Nat) : Int) := by omega
      have hi2 := ih (i + 1) (by first | decide | omega)
      rw [sm_su (owd S.2) i] at hi2
      rw [q_113_4, l3, if_pos (by first | decide | omega), if_pos (by first | decide | omega), if_pos (show (0 : Int) ≤ (i : Int) ∧ (i : Int) < 30 by omega), Int.toNat_natCast, a1, a4, w32e (by first | decide | omega) (by first | decide | omega), e1, w64_al, w64_al]
      by_cases h : S.2 145 i = -1
      · have : owd S.2 i = S.2 142 i := by unfold owd; rw [if_pos h]
        rw [if_pos h, ← this]
        exact hi2
      · have : owd S.2 i = 0 := by unfold owd; rw [if_neg h]
        rw [if_neg h]
        rw [this] at hi2
        exact hi2
  rw [q_113]
  exact key (S.2 72 93).toNat 0 (by first | decide | omega)
theorem m_owed (H : GN S.2) : ev (WK L xs) (d + 1) 295 [vr 72] S = some (oweS S.2, S) := by
  obtain ⟨-, -, -, ⟨l1, l2⟩, l3, l4, l5⟩ := H
  have key : ∀ (m i : Nat), i + m = (S.2 72 93).toNat → LQ (WK L xs) (ev (WK L xs) d) 295 4 [some (vr 72), some (vl (w64 (sm (owd S.2) i))), none, some (vi (i : Int))] [] S = some (oweS S.2, S) := by
    intro m
    induction m with
    | zero =>
      intro i hi
      rw [q_295_4, if_neg (by first | decide | omega), show i = (S.2 72 93).toNat by omega]
      rfl
    | succ m ih =>
      intro i hi
      have e1 : (i : Int) + 1 = ((i + 1 : Nat) : Int) := by omega
      have hi2 := ih (i + 1) (by first | decide | omega)
      rw [sm_su (owd S.2) i] at hi2
      rw [q_295_4, if_pos (by first | decide | omega), if_pos (by first | decide | omega), if_pos (show (0 : Int) ≤ (i : Int) ∧ (i : Int) < 30 by omega), Int.toNat_natCast, w32e (by first | decide | omega) (by first | decide | omega), e1, w64_al, w64_al]
      by_cases h : S.2 145 i = -1
      · have : owd S.2 i = S.2 142 i := by unfold owd; rw [if_pos h]
        rw [if_pos h, ← this]
        exact hi2
      · have : owd S.2 i = 0 := by unfold owd; rw [if_neg h]
        rw [if_neg h]
        rw [this] at hi2
        exact hi2
  rw [q_295]
  exact key (S.2 72 93).toNat 0 (by first | decide | omega)
theorem o_sum (H : Inv S) (p : Int) : Ok L xs 69 319 [vi p] S := by
  have ht := H.gt
  have ht0 := ht.1
  have ht2 := ht.2
  have gk := H.gk
  have gw := H.gw
  have hc : S.2 15 1 = S.2 72 3 := H.gc.1
  obtain ⟨hn, hn3⟩ := nC gk
  have hy := (wN_bd ht).2
  have hpa : ∀ (m c : Nat), c + m = nClaims S.2 → LQ (WK L xs) (ev (WK L xs) 199) 319 53 [some (vr 72), none, some (vl (sm (fun c => if S.2 115 c ≠ -1 then S.2 111 c else 0) c)), none, some (vi (c : Int))] [] S = some (S.2 43 4, S) := by
    intro m
    induction m with
    | zero =>
      intro c hc
      rw [q_319_53, hn, if_neg (by first | decide | omega), gk.2.2.2.2.2.2.2.2.1, show c = nClaims S.2 by omega]
    | succ m ih =>
      intro c hc
      have e1 : (c : Int) + 1 = ((c + 1 : Nat) : Int) := by omega
      have hi2 := ih (c + 1) (by first | decide | omega)
      have hst := sm_su (fun c => if S.2 115 c ≠ -1 then S.2 111 c else 0) c
      have hb := sm_bd (f := fun c => if S.2 115 c ≠ -1 then S.2 111 c else 0) (M := 1000000000) (n := c + 1) (fun j hj => by
        have := gk.1.2.2.2.1 j (by first | decide | omega)
        split <;> omega)
      rw [hst] at hi2 hb
      rw [q_319_53, hn, if_pos (by first | decide | omega), if_pos (by first | decide | omega), if_pos (show (0 : Int) ≤ (c : Int) ∧ (c : Int) < 300 by omega), Int.toNat_natCast, w32e (by first | decide | omega) (by first | decide | omega), e1]
      by_cases h : S.2 115 c = -1
      · rw [if_neg (fun z => z h)] at hi2 hb
        rw [if_pos h, w64e (by first | decide | omega) (by first | decide | omega)]
        exact hi2
      · rw [if_pos h] at hi2 hb
        rw [if_neg h, w64e (by first | decide | omega) (by first | decide | omega)]
        exact hi2
  have hdx : ∀ (m c : Nat), c + m = 52 → LQ (WK L xs) (ev (WK L xs) 198) 192 5 [some (vr 54), some (vi (yN S.2)), some (vl (w64 (sm (fun c => S.2 134 (52 * yN S.2 + c).toNat) c))), none, some (vi (c : Int))] [] S = some (w64 (sm (fun c => S.2 134 (52 * yN S.2 + c).toNat) 52), S) := by
    intro m
    induction m with
    | zero =>
      intro c hc
      rw [q_192_5, if_neg (by first | decide | omega), show c = 52 by omega]
    | succ m ih =>
      intro c hc
      have e1 : (c : Int) + 1 = ((c + 1 : Nat) : Int) := by omega
      have hi2 := ih (c + 1) (by first | decide | omega)
      rw [sm_su (fun c => S.2 134 (52 * yN S.2 + c).toNat) c] at hi2
      rw [q_192_5, if_pos (by first | decide | omega), x_dueIn gw hy (by first | decide | omega), bR, w32e (by first | decide | omega) (by first | decide | omega), e1, w64_al]
      exact hi2
  have hdm : ∀ (m c : Nat), c + m = 52 → LQ (WK L xs) (ev (WK L xs) 199) 319 109 [some (vr 72), none, some (vl (w64 (sm (fun c => S.2 134 (52 * yN S.2 + c).toNat) c))), none, some (vi (c : Int))] [] S = some (w64 (sm (fun c => S.2 134 (52 * yN S.2 + c).toNat) 52), S) := by
    intro m
    induction m with
    | zero =>
      intro c hc
      rw [q_319_109, if_neg (by first | decide | omega), show c = 52 by omega]
    | succ m ih =>
      intro c hc
      have e1 : (c : Int) + 1 = ((c + 1 : Nat) : Int) := by omega
      have hi2 := ih (c + 1) (by first | decide | omega)
      have e3 : S.2 72 2 / 360 = yN S.2 := rfl
      rw [sm_su (fun c => S.2 134 (52 * yN S.2 + c).toNat) c] at hi2
      rw [q_319_109, if_pos (by first | decide | omega), m_yr ht, bR, e3, w32e (x := 52 * yN S.2) (by first | decide | omega) (by first | decide | omega), w32e (x := 52 * yN S.2 + (c : Int)) (by first | decide | omega) (by first | decide | omega), if_pos (by first | decide | omega), w32e (by first | decide | omega) (by first | decide | omega), e1, w64_al]
      exact hi2
  refine Ok.same (r := if p = 0 then S.2 72 3 else if p = 1 then S.2 72 85 else if p = 2 then S.2 43 4 else if p = 3 then oweS S.2 else if p = 4 then S.2 72 86 else if p = 5 then w64 (sm (fun c => S.2 134 (52 * yN S.2 + c).toNat) 52) else -1) H ?_ ?_
  · have e3 : S.2 72 2 / 360 = yN S.2 := rfl
    have hd := hdx 52 0 (by first | decide | omega)
    have hz : w64 (sm (fun c => S.2 134 (52 * yN S.2 + (c : Nat)).toNat) 0) = 0 := rfl
    have h0 : ((0 : Nat) : Int) = 0 := rfl
    rw [hz, h0] at hd
    rw [q_69, hc, gw.2.1, H.gn.2.2.2.2.2.1, x_owed H.gn, bR, ht0, x_yr ht2.1 ht2.2, bR, e3, q_192, hd, bR]
    repeat' split
    all_goals rfl
  · have hd := hdm 52 0 (by first | decide | omega)
    have hz : w64 (sm (fun c => S.2 134 (52 * yN S.2 + (c : Nat)).toNat) 0) = 0 := rfl
    have h0 : ((0 : Nat) : Int) = 0 := rfl
    rw [hz, h0] at hd
    have hpp := hpa (nClaims S.2) 0 (by first | decide | omega)
    have hz2 : sm (fun c => if S.2 115 c ≠ -1 then S.2 111 c else 0) 0 = 0 := rfl
    rw [hz2, h0] at hpp
    rw [q_319, hd, hpp, m_owed H.gn, bR]
    repeat' split
    all_goals rfl
end
end
section
-- 39.draw
/-! draw -/
/-- the first mark at or behind what is ahead -/
noncomputable def mrk (first step ahead : Int) : Int := if first < ahead then first + (ahead - first + step - 1) / step * step else first
theorem mrk_ge {f s a : Int} (hs : 0 < s) : a ≤ mrk f s a ∧ f ≤ mrk f s a ∧ mrk f s a < (if f < a then a else f) + s := by
  unfold mrk
  by_cases h : f < a
  · rw [if_pos h, if_pos h]
    have h1 := Int.mul_ediv_add_emod (a - f + s - 1) s
    have h2 := Int.emod_nonneg (a - f + s - 1) (show s ≠ 0 by omega)
    have h3 := Int.emod_lt_of_pos (a - f + s - 1) hs
    rw [Int.mul_comm] at h1
    generalize (a - f + s - 1) / s * s = q at *
    omega
  · rw [if_neg h, if_neg h]
    omega
theorem mrk_keep {f s a b : Int} (hs : 0 < s) (hab : a ≤ b) (h : b ≤ mrk f s a) : mrk f s b = mrk f s a := by
  unfold mrk at h ⊢
  by_cases h1 : f < a
  · rw [if_pos h1] at h ⊢
    rw [if_pos (show f < b by omega)]
    have e : (b - f + s - 1) / s = (a - f + s - 1) / s := by
      apply Int.le_antisymm
      · have : (b - f + s - 1) / s < (a - f + s - 1) / s + 1 := by
          apply Int.ediv_lt_of_lt_mul hs
          rw [Int.add_mul, Int.one_mul]
          omega
        omega
      · exact Int.ediv_le_ediv hs (by first | decide | omega)
    rw [e]
  · rw [if_neg h1] at h ⊢
    rw [if_neg (by first | decide | omega)]
theorem mrk_next {f s a b : Int} (hs : 0 < s) (h : mrk f s a < b) : mrk f s b = mrk f s a + (b - mrk f s a + s - 1) / s * s := by
  have hf : f < b := by
    have := (mrk_ge (f := f) (a := a) hs).2.1
    omega
  have : ∃ j, mrk f s a = f + j * s := by
    unfold mrk
    by_cases h1 : f < a
    · rw [if_pos h1]
      exact ⟨_, rfl⟩
    · rw [if_neg h1]
      exact ⟨0, by omega⟩
  obtain ⟨j, hj⟩ := this
  rw [hj]
  show (if f < b then f + (b - f + s - 1) / s * s else f) = _
  rw [if_pos hf]
  have e : (b - f + s - 1) / s = (b - (f + j * s) + s - 1) / s + j := by
    rw [← Int.add_mul_ediv_right _ _ (show s ≠ 0 by omega)]
    congr 1
    omega
  rw [e, Int.add_mul]
  omega
theorem ldiv_e {a b : Int} (h : 0 ≤ a ∧ a ≤ 1000000000000000000) (hb : 0 < b) : ldiv a b = a / b ∧ 0 ≤ a / b ∧ a / b ≤ a := by
  have h3 : 0 ≤ a / b := Int.ediv_nonneg h.1 (by first | decide | omega)
  have h4 : a / b ≤ a := Int.ediv_le_self _ h.1
  unfold ldiv
  rw [Int.tdiv_eq_ediv_of_nonneg h.1, w64e (by first | decide | omega) (by first | decide | omega)]
  exact ⟨rfl, h3, h4⟩
theorem up_bd {a s : Int} (ha : 0 ≤ a ∧ a ≤ 100000000000000) (hs : 0 < s ∧ s ≤ 1000000000) : w64 (ldiv (a + s - 1) s * s) = (a + s - 1) / s * s ∧ 0 ≤ (a + s - 1) / s * s ∧ (a + s - 1) / s * s < a + s := by
  obtain ⟨e1, e2, e3⟩ := ldiv_e (a := a + s - 1) (b := s) (by first | decide | omega) hs.1
  have h1 := Int.mul_ediv_add_emod (a + s - 1) s
  have h2 := Int.emod_nonneg (a + s - 1) (show s ≠ 0 by omega)
  have h3 := Int.emod_lt_of_pos (a + s - 1) hs.1
  have h5 : 0 ≤ (a + s - 1) / s * s := Int.mul_nonneg e2 (by first | decide | omega)
  rw [Int.mul_comm] at h1
  rw [e1]
  generalize (a + s - 1) / s * s = q at *
  rw [w64e (by first | decide | omega) (by first | decide | omega)]
  omega
/-- what was paid in y ahead of the claim c -/
noncomputable def ahd (h : Nat → Nat → Int) (y : Int) (c : Nat) : Int := sm (fun c => if pin h c y = true then h 111 c else 0) c
/-- is the claim drawn? -/
noncomputable def drw (h : Nat → Nat → Int) (y f s : Int) (c : Nat) : Int := if pin h c y = true then (if mrk f s (ahd h y c) < ahd h y c + h 111 c then 1 else 0) else h 120 c
noncomputable def drN (h : Nat → Nat → Int) (y f s : Int) (c : Nat) : Int := sm (fun c => if pin h c y = true ∧ drw h y f s c = 1 then 1 else 0) c
section
variable {L : Nat} {xs : Nat → Int} {d : Nat} {S S' : AH} {o : Nat}
theorem ahd_bd (gk : GK S) (y : Int) {c : Nat} (hc : c ≤ nClaims S.2) : 0 ≤ ahd S.2 y c ∧ ahd S.2 y c ≤ c * 1000000000 := by
  obtain ⟨hn, hn3⟩ := nC gk
  refine sm_bd (fun j hj => ?_)
  have := gk.1.2.2.2.1 j (by first | decide | omega)
  split <;> omega
theorem drN_bd {h : Nat → Nat → Int} (y f s : Int) (c : Nat) : 0 ≤ drN h y f s c ∧ drN h y f s c ≤ c * 1 := by
  refine sm_bd (fun j hj => ?_)
  split <;> omega
/-- the class's loop -/
noncomputable def DX (S : AH) (y f s : Int) (c : Nat) (T : AH) : Prop := T.1 = S.1 ∧ (∀ a, a < 151 → a ≠ 46 → T.2 a = S.2 a) ∧ (∀ j, T.2 46 j = if j = y.toNat then s else S.2 46 j) ∧ (∀ a, 151 ≤ a → (∀ e : Nat, (e : Int) < S.2 72 52 → a ≠ clA S e) → T.2 a = S.2 a) ∧ ∀ e : Nat, (e : Int) < S.2 72 52 → (∀ k, k ≠ 12 → T.2 (clA S e) k = S.2 (clA S e) k) ∧ T.2 (clA S e) 12 = if e < c then drw S.2 y f s e else S.2 120 e
theorem x_drl (gk : GK S) {y f s : Int} (hf : 0 ≤ f ∧ f < s) (hs : s ≤ 1000000000) : ∀ (m c : Nat) (T : AH), c + m = nClaims S.2 → DX S y f s c T → ∃ T', LQ (WK L xs) (ev (WK L xs) (d + 3)) 85 34 [some (vr 43), some (vi y), none, some (vi s), some (vl (mrk f s (ahd S.2 y c))), none, some (vl (ahd S.2 y c)), none, some (vi (drN S.2 y f s c)), some (vi (c : Int)), none, none, none] [] T = some (drN S.2 y f s (nClaims S.2), T') ∧ DX S y f s (nClaims S.2) T' := by
  obtain ⟨hn, hn3⟩ := nC gk
  intro m
  induction m with
  | zero =>
    intro c T hc hD
    have e : c = nClaims S.2 := by omega
    have t43 := hD.2.1 43 (by first | decide | omega) (by first | decide | omega)
    subst e
    rw [q_85_34, t43, gk.2.1, hn, if_neg (by first | decide | omega)]
    exact ⟨T, rfl, hD⟩
  | succ m ih =>
    intro c T hc hD
    have hcl : (c : Int) < S.2 72 52 := by omega
    have ho := gk.ob hcl
    have h5 := ho.1
    have hoT : isO T (clA S c) 12 15 := by
      unfold isO
      rw [hD.1]
      exact ho
    have t43 := hD.2.1 43 (by first | decide | omega) (by first | decide | omega)
    have t44 := hD.2.1 44 (by first | decide | omega) (by first | decide | omega)
    have hA := gk.2.2.2.2.1 c hcl
    have hr := (gk.1.2.2.2.1 c hcl).2.2.2.1
    obtain ⟨z1, z2⟩ := hD.2.2.2.2 c hcl
    have e1 : (c : Int) + 1 = ((c + 1 : Nat) : Int) := by omega
    have b1 := ahd_bd gk y (c := c) (by first | decide | omega)
    have b2 := drN_bd (h := S.2) y f s c
    have hmk := mrk_ge (f := f) (s := s) (a := ahd S.2 y c) (by first | decide | omega)
    have hmu : mrk f s (ahd S.2 y c) ≤ ahd S.2 y c + 2 * s := by
      have := hmk.2.2
      split at this <;> omega
    have hau : ahd S.2 y (c + 1) = ahd S.2 y c + if pin S.2 c y = true then S.2 111 c else 0 := rfl
    have hdu : drN S.2 y f s (c + 1) = drN S.2 y f s c + if pin S.2 c y = true ∧ drw S.2 y f s c = 1 then 1 else 0 := rfl
    have hcat : ev (WK L xs) (d + 3) 80 [vr 43, vi (c : Int)] T = some ((clA S c : Int), T) := by
      rw [q_80, t43, gk.2.1, if_neg (by first | decide | omega), if_pos hcl, if_pos (by first | decide | omega), Int.toNat_natCast, t44]
      rfl
    have hpn : ev (WK L xs) (d + 3) 75 [vr (clA S c), vi y] T = some (bi (pin S.2 c y = true), T) := by
      rw [x_paidIn hoT, z1 7 (by decide), hA.2.2.2.2.2.2.2.2.1]
      congr 2
      apply bi_iff
      unfold pin
      simp
    rw [q_85_34, t43, gk.2.1, if_pos hcl, hcat, bR, Int.toNat_natCast, if_neg (by first | decide | omega), g14 hoT, k12a hoT, hpn, bR, w32e (x := (c : Int) + 1) (by first | decide | omega) (by first | decide | omega), e1, k12 hoT, rdvD h5, z1 3 (by decide), hA.2.2.2.2.1, w64e (x := ahd S.2 y c + S.2 111 c) (by first | decide | omega) (by first | decide | omega)]
    simp only [bi_0, lc_lt]
    by_cases hp : pin S.2 c y = true
    · rw [if_pos hp] at hau
      rw [if_neg (fun z => z hp)]
      have hstep : ∀ b : Int, (b = 0 ∨ b = 1) → drw S.2 y f s c = b → DX S y f s (c + 1) (wr T (clA S c) 12 b) := by
        intro b hb hv
        refine ⟨hD.1, fun a q1 q2 => ?_, fun j => ?_, fun a q1 q2 => ?_, fun e he => ?_⟩
        · rw [wr_c (by first | decide | omega)]; exact hD.2.1 a q1 q2
        · rw [wr_c (by first | decide | omega)]; exact hD.2.2.1 j
        · rw [wr_c (q2 c hcl)]; exact hD.2.2.2.1 a q1 q2
        · by_cases hec : e = c
          · subst hec
            refine ⟨fun k hk => ?_, ?_⟩
            · rw [wr_f, if_neg hk]; exact z1 k hk
            · rw [wr_f, if_pos rfl, if_pos (by first | decide | omega), hv]
          · have hne : clA S e ≠ clA S c := fun z => hec (gk.2.2.2.2.2.1 e c he hcl z)
            rw [wr_c hne]
            refine ⟨(hD.2.2.2.2 e he).1, ?_⟩
            rw [(hD.2.2.2.2 e he).2]
            by_cases q : e < c
            · rw [if_pos q, if_pos (by first | decide | omega)]
            · rw [if_neg q, if_neg (by first | decide | omega)]
      have hoW : ∀ b : Int, isO (wr T (clA S c) 12 b) (clA S c) 12 15 := fun b => hoT
      by_cases hm : mrk f s (ahd S.2 y c) < ahd S.2 y c + S.2 111 c
      · have hv : drw S.2 y f s c = 1 := by
          unfold drw
          rw [if_pos hp, if_pos hm]
        rw [if_pos ⟨hp, hv⟩] at hdu
        have hnx := mrk_next (f := f) (s := s) (a := ahd S.2 y c) (b := ahd S.2 y c + S.2 111 c) (by first | decide | omega) hm
        obtain ⟨u1, u2, u3⟩ := up_bd (a := ahd S.2 y c + S.2 111 c - mrk f s (ahd S.2 y c)) (s := s) (by first | decide | omega) (by first | decide | omega)
        rw [if_pos hm, q_85_94, k12w hoT, if_pos (Or.inr rfl), k12 (hoW 1), rdvD h5, wr_f, if_pos rfl, if_neg (by decide), if_neg (by first | decide | omega), w32e (x := (c : Int) + 1) (by first | decide | omega) (by first | decide | omega), e1, w32e (by first | decide | omega) (by first | decide | omega), w64e (x := ahd S.2 y c + S.2 111 c - mrk f s (ahd S.2 y c)) (by first | decide | omega) (by first | decide | omega), w64e (x := ahd S.2 y c + S.2 111 c - mrk f s (ahd S.2 y c) + s) (by first | decide | omega) (by first | decide | omega), w64e (x := ahd S.2 y c + S.2 111 c - mrk f s (ahd S.2 y c) + s - 1) (by first | decide | omega) (by first | decide | omega), u1, w64e (by first | decide | omega) (by first | decide | omega), ← hnx, ← hau, ← hdu]
        exact ih (c + 1) _ (by first | decide | omega) (hstep 1 (Or.inr rfl) hv)
      · have hv : drw S.2 y f s c = 0 := by
          unfold drw
          rw [if_pos hp, if_neg hm]
        rw [if_neg (fun z => by rw [hv] at z; exact absurd z.2 (by decide)), Int.add_zero] at hdu
        have hnx := mrk_keep (f := f) (s := s) (a := ahd S.2 y c) (b := ahd S.2 y c + S.2 111 c) (by first | decide | omega) (by first | decide | omega) (by first | decide | omega)
        rw [if_neg hm, q_85_94, k12w hoT, if_pos (Or.inl rfl), k12 (hoW 0), rdvD h5, wr_f, if_pos rfl, if_pos rfl, w32e (x := (c : Int) + 1) (by first | decide | omega) (by first | decide | omega), e1, ← hnx, ← hau, ← hdu]
        exact ih (c + 1) _ (by first | decide | omega) (hstep 0 (Or.inl rfl) hv)
    · rw [if_neg hp, Int.add_zero] at hau
      rw [if_neg (fun z => hp z.1), Int.add_zero] at hdu
      rw [if_pos hp, ← hau, ← hdu]
      refine ih (c + 1) T (by first | decide | omega) ⟨hD.1, hD.2.1, hD.2.2.1, hD.2.2.2.1, fun e he => ⟨(hD.2.2.2.2 e he).1, ?_⟩⟩
      rw [(hD.2.2.2.2 e he).2]
      by_cases hec : e = c
      · subst hec
        rw [if_neg (by first | decide | omega), if_pos (by first | decide | omega)]
        unfold drw
        rw [if_neg hp]
      · by_cases q : e < c
        · rw [if_pos q, if_pos (by first | decide | omega)]
        · rw [if_neg q, if_neg (by first | decide | omega)]
/-- the reference's loop; h0 is where it starts from -/
noncomputable def DM (S U : AH) (y f s : Int) (c : Nat) (T : AH) : Prop := T.1 = U.1 ∧ (∀ a, a ≠ 120 → T.2 a = U.2 a) ∧ ∀ e : Nat, T.2 120 e = if e < c then drw S.2 y f s e else S.2 120 e
theorem m_drl (gk : GK S) {U : AH} (hU : ∀ a, a < 151 → a ≠ 46 → a ≠ 146 → U.2 a = S.2 a) {y f s : Int} (hf : 0 ≤ f ∧ f < s) (hs : s ≤ 1000000000) : ∀ (m c : Nat) (T : AH), c + m = nClaims S.2 → DM S U y f s c T → ∃ T', LQ (WK L xs) (ev (WK L xs) (d + 1)) 299 55 [some (vr 72), some (vi y), some (vi f), some (vi s), some (vl (ahd S.2 y c)), none, some (vi (drN S.2 y f s c)), some (vi (c : Int)), none, none] [] T = some (drN S.2 y f s (nClaims S.2), T') ∧ DM S U y f s (nClaims S.2) T' := by
  obtain ⟨hn, hn3⟩ := nC gk
  intro m
  induction m with
  | zero =>
    intro c T hc hD
    have e : c = nClaims S.2 := by omega
    have t72 := (hD.2.1 72 (by first | decide | omega)).trans (hU 72 (by first | decide | omega) (by first | decide | omega) (by first | decide | omega))
    subst e
    rw [q_299_55, t72, hn, if_neg (by first | decide | omega)]
    exact ⟨T, rfl, hD⟩
  | succ m ih =>
    intro c T hc hD
    have hcl : (c : Int) < S.2 72 52 := by omega
    have t72 := (hD.2.1 72 (by first | decide | omega)).trans (hU 72 (by first | decide | omega) (by first | decide | omega) (by first | decide | omega))
    have t111 := (hD.2.1 111 (by first | decide | omega)).trans (hU 111 (by first | decide | omega) (by first | decide | omega) (by first | decide | omega))
    have t115 := (hD.2.1 115 (by first | decide | omega)).trans (hU 115 (by first | decide | omega) (by first | decide | omega) (by first | decide | omega))
    have hr := (gk.1.2.2.2.1 c hcl).2.2.2.1
    have e1 : (c : Int) + 1 = ((c + 1 : Nat) : Int) := by omega
    have hq : (0 : Int) ≤ (c : Int) ∧ (c : Int) < 300 := by omega
    have b1 := ahd_bd gk y (c := c) (by first | decide | omega)
    have b2 := drN_bd (h := S.2) y f s c
    have hau : ahd S.2 y (c + 1) = ahd S.2 y c + if pin S.2 c y = true then S.2 111 c else 0 := rfl
    have hdu : drN S.2 y f s (c + 1) = drN S.2 y f s c + if pin S.2 c y = true ∧ drw S.2 y f s c = 1 then 1 else 0 := rfl
    rw [q_299_55, t72, hn, if_pos (by first | decide | omega), m_paidIn (by first | decide | omega), bR, pin_fr t115, w32e (x := (c : Int) + 1) (by first | decide | omega) (by first | decide | omega), e1, if_neg (show ¬ s = 0 by omega)]
    simp only [bi_0, lc_gt]
    by_cases hp : pin S.2 c y = true
    · rw [if_pos hp] at hau
      rw [if_neg (fun z => z hp)]
      have h109 : LQ (WK L xs) (ev (WK L xs) (d + 1)) 299 109 [some (vr 72), some (vi y), some (vi f), some (vi s), some (vl (ahd S.2 y c)), none, some (vi (drN S.2 y f s c)), some (vi (c : Int)), none, none] [vl (mrk f s (ahd S.2 y c))] T = LQ (WK L xs) (ev (WK L xs) (d + 1)) 299 55 [some (vr 72), some (vi y), some (vi f), some (vi s), some (vl (ahd S.2 y (c + 1))), none, some (vi (drN S.2 y f s (c + 1))), some (vi ((c + 1 : Nat) : Int)), none, none] [] (wr T 120 c (drw S.2 y f s c)) := by
        rw [q_299_109, if_pos hq, Int.toNat_natCast, t111, w64e (x := ahd S.2 y c + S.2 111 c) (by first | decide | omega) (by first | decide | omega)]
        simp only [lc_lt]
        by_cases hm : mrk f s (ahd S.2 y c) < ahd S.2 y c + S.2 111 c
        · have hv : drw S.2 y f s c = 1 := by
            unfold drw
            rw [if_pos hp, if_pos hm]
          rw [if_pos ⟨hp, hv⟩] at hdu
          rw [if_pos hm, q_299_139, if_pos hq, if_pos (Or.inr rfl), if_pos hq, Int.toNat_natCast, wr_f, if_pos rfl, if_neg (by decide), if_pos hq, t111, w64e (x := ahd S.2 y c + S.2 111 c) (by first | decide | omega) (by first | decide | omega), w32e (x := (c : Int) + 1) (by first | decide | omega) (by first | decide | omega), e1, w32e (by first | decide | omega) (by first | decide | omega), ← hau, ← hdu, hv]
        · have hv : drw S.2 y f s c = 0 := by
            unfold drw
            rw [if_pos hp, if_neg hm]
          rw [if_neg (fun z => by rw [hv] at z; exact absurd z.2 (by decide)), Int.add_zero] at hdu
          rw [if_neg hm, q_299_139, if_pos hq, if_pos (Or.inl rfl), if_pos hq, Int.toNat_natCast, wr_f, if_pos rfl, if_pos rfl, if_pos hq, t111, w64e (x := ahd S.2 y c + S.2 111 c) (by first | decide | omega) (by first | decide | omega), w32e (x := (c : Int) + 1) (by first | decide | omega) (by first | decide | omega), e1, Int.add_zero, w32e (by first | decide | omega) (by first | decide | omega), ← hau, hdu, hv]
      have hgo := ih (c + 1) (wr T 120 c (drw S.2 y f s c)) (by first | decide | omega) ⟨hD.1, fun a q => by rw [wr_c q]; exact hD.2.1 a q, fun e => by
        rw [wr_f, hD.2.2 e]
        by_cases hec : e = c
        · subst hec
          rw [if_pos rfl, if_pos (by first | decide | omega)]
        · rw [if_neg hec]
          by_cases q : e < c
          · rw [if_pos q, if_pos (by first | decide | omega)]
          · rw [if_neg q, if_neg (by first | decide | omega)]⟩
      by_cases hfa : f < ahd S.2 y c
      · obtain ⟨u1, u2, u3⟩ := up_bd (a := ahd S.2 y c - f) (s := s) (by first | decide | omega) (by first | decide | omega)
        have hmv : mrk f s (ahd S.2 y c) = f + (ahd S.2 y c - f + s - 1) / s * s := by
          unfold mrk
          rw [if_pos hfa]
        rw [if_pos hfa, w64e (x := ahd S.2 y c - f) (by first | decide | omega) (by first | decide | omega), w64e (x := ahd S.2 y c - f + s) (by first | decide | omega) (by first | decide | omega), w64e (x := ahd S.2 y c - f + s - 1) (by first | decide | omega) (by first | decide | omega), u1, w64e (by first | decide | omega) (by first | decide | omega), ← hmv, h109]
        exact hgo
      · have hmv : mrk f s (ahd S.2 y c) = f := by
          unfold mrk
          rw [if_neg hfa]
        rw [hmv] at h109
        rw [if_neg hfa, h109]
        exact hgo
    · rw [if_neg hp, Int.add_zero] at hau
      rw [if_neg (fun z => hp z.1), Int.add_zero] at hdu
      rw [if_pos hp, ← hau, ← hdu]
      refine ih (c + 1) T (by first | decide | omega) ⟨hD.1, hD.2.1, fun e => ?_⟩
      rw [hD.2.2 e]
      by_cases hec : e = c
      · subst hec
        rw [if_neg (by first | decide | omega), if_pos (by first | decide | omega)]
        unfold drw
        rw [if_neg hp]
      · by_cases q : e < c
        · rw [if_pos q, if_pos (by first | decide | omega)]
        · rw [if_neg q, if_neg (by first | decide | omega)]
theorem o_draw (H : Inv S) (p q r : Int) : Ok L xs 51 299 [vi p, vi q, vi r] S := by
  have gk := H.gk
  obtain ⟨hn, hn3⟩ := nC gk
  by_cases hc : (0 ≤ p ∧ p < 10) ∧ (0 ≤ q ∧ q < r) ∧ r ≤ 1000000000
  · obtain ⟨hp, hf, hs⟩ := hc
    have hm0 : mrk q r (ahd S.2 p 0) = q := by
      unfold mrk
      rw [if_neg (show ¬ q < ahd S.2 p 0 by show ¬ q < 0; omega)]
    have hx := x_drl (L := L) (xs := xs) (d := 195) gk (y := p) hf hs (nClaims S.2) 0 (wr S 46 p.toNat r) (by first | decide | omega) ⟨rfl, fun a q1 q2 => wr_c (by first | decide | omega), fun j => wr_f, fun a q1 q2 => wr_c (by first | decide | omega), fun e he => by
      have h5 := (gk.ob he).1
      rw [wr_c (by first | decide | omega), if_neg (by first | decide | omega)]
      exact ⟨fun _ _ => rfl, (gk.2.2.2.2.1 e he).2.2.2.2.2.2.2.2.2.2.2.2.2.1⟩⟩
    obtain ⟨T, x1, x2⟩ := hx
    have hm := m_drl (L := L) (xs := xs) (d := 198) gk (U := wr T 146 p.toNat r) (fun a q1 q2 q3 => by rw [wr_c (by first | decide | omega)]; exact x2.2.1 a q1 q2) (y := p) hf hs (nClaims S.2) 0 (wr T 146 p.toNat r) (by first | decide | omega) ⟨rfl, fun a _ => rfl, fun e => by rw [if_neg (by first | decide | omega), wr_c (by first | decide | omega), x2.2.1 120 (by first | decide | omega) (by first | decide | omega)]⟩
    obtain ⟨V, m1, m2⟩ := hm
    have hz : ahd S.2 p 0 = 0 := rfl
    have hd0 : drN S.2 p q r 0 = 0 := rfl
    have h0 : ((0 : Nat) : Int) = 0 := rfl
    rw [hm0, hz, hd0, h0] at x1
    rw [hz, hd0, h0] at m1
    have hV1 : V.1 = S.1 := by rw [m2.1]; exact x2.1
    have hVc : ∀ a, a < 151 → a ≠ 46 → a ≠ 146 → a ≠ 120 → V.2 a = S.2 a := fun a q1 q2 q3 q4 => by rw [m2.2.1 a q4, wr_c q3]; exact x2.2.1 a q1 q2
    refine ⟨drN S.2 p q r (nClaims S.2), T, V, ?_, ?_, ?_, Gw.of hV1⟩
    · rw [q_51]
      simp only [x_isYear, x_isSum, bR, bi_0]
      rw [if_neg (fun z => z hp), if_neg (by first | decide | omega), if_neg (by first | decide | omega), if_neg (by first | decide | omega), if_pos hf.2, q_85, x_isYear, bR]
      simp only [bi_0]
      rw [if_neg (fun z => z hp), if_neg (by first | decide | omega), if_pos hp]
      exact (congrArg (bindR · _) x1).trans rfl
    · rw [q_299]
      simp only [m_lies, bR, bi_0]
      rw [if_neg (by first | decide | omega), if_neg (by first | decide | omega), w32e (by first | decide | omega) (by first | decide | omega), if_neg (by first | decide | omega), if_pos hp]
      exact m1
    · refine H.marks hV1 (fun a q1 q2 => ?_) (fun a q1 q2 q3 q4 => hVc a q1 q2 q3 (by first | decide | omega)) (fun y hy => ?_) (fun c hcl => ?_) (fun c hcl => ?_) (fun c hcl a q1 q2 => ?_)
      · rw [m2.2.1 a (by first | decide | omega), wr_c (by first | decide | omega)]
        exact x2.2.2.2.1 a q1 q2
      · rw [m2.2.1 46 (by first | decide | omega), m2.2.1 146 (by first | decide | omega), wr_c (show (46 : Nat) ≠ 146 by decide), wr_f, x2.2.2.1 y, x2.2.1 146 (by first | decide | omega) (by first | decide | omega)]
        by_cases e : y = p.toNat
        · rw [if_pos e, if_pos e]
          omega
        · rw [if_neg e, if_neg e]
          exact gk.2.2.2.2.2.2.2.2.2.1 y hy
      · have h5 := (gk.ob hcl).1
        obtain ⟨a1, a2, a3, a4, a5, a6, a7, a8, a9, a10, a11, a12, a13, a14, a15, a16⟩ := gk.2.2.2.2.1 c hcl
        obtain ⟨z1, z2⟩ := x2.2.2.2.2 c hcl
        rw [if_pos (by first | decide | omega)] at z2
        have m3 := m2.2.2 c
        rw [if_pos (by first | decide | omega)] at m3
        rw [m2.2.1 (clA S c) (by first | decide | omega), wr_c (by first | decide | omega), hVc 118 (by first | decide | omega) (by first | decide | omega) (by first | decide | omega) (by first | decide | omega), hVc 119 (by first | decide | omega) (by first | decide | omega) (by first | decide | omega) (by first | decide | omega), hVc 121 (by first | decide | omega) (by first | decide | omega) (by first | decide | omega) (by first | decide | omega), hVc 122 (by first | decide | omega) (by first | decide | omega) (by first | decide | omega) (by first | decide | omega), m3, z1 10 (by decide), z1 11 (by decide), z1 13 (by decide), z2]
        exact ⟨fun k hk => z1 k (by first | decide | omega), a12, a13, rfl, a15⟩
      · obtain ⟨r1, r2, r3, r4, r5, r6, r7, r8, r9, r10, r11, r12, r13⟩ := gk.1.2.2.2.1 c hcl
        have m3 := m2.2.2 c
        rw [if_pos (by first | decide | omega)] at m3
        rw [hVc 119 (by first | decide | omega) (by first | decide | omega) (by first | decide | omega) (by first | decide | omega), hVc 121 (by first | decide | omega) (by first | decide | omega) (by first | decide | omega) (by first | decide | omega), hVc 122 (by first | decide | omega) (by first | decide | omega) (by first | decide | omega) (by first | decide | omega), m3]
        refine ⟨r9, ?_, r11, r12⟩
        unfold drw
        split
        · split
          · exact Or.inr rfl
          · exact Or.inl rfl
        · exact r10
      · by_cases e : a = 120
        · subst e
          rw [m2.2.2 c, if_neg (by first | decide | omega)]
        · rw [hVc a (by first | decide | omega) (by first | decide | omega) (by first | decide | omega) e]
  · refine Ok.same (r := -1) H ?_ ?_
    · rw [q_51]
      simp only [x_isYear, x_isSum, bR, bi_0]
      by_cases h1 : 0 ≤ p ∧ p < 10
      · rw [if_neg (fun z => z h1)]
        by_cases h2 : 0 ≤ q ∧ q ≤ 1000000000
        · rw [if_neg (fun z => z h2)]
          by_cases h3 : 0 ≤ r ∧ r ≤ 1000000000
          · rw [if_neg (fun z => z h3)]
            by_cases h4 : r < 1
            · rw [if_pos h4]
            · rw [if_neg h4, if_neg (by first | decide | omega)]
          · rw [if_pos h3]
        · rw [if_pos h2]
      · rw [if_pos h1]
    · rw [q_299]
      simp only [m_lies, bR, bi_0]
      by_cases h1 : 0 ≤ p ∧ p ≤ 9
      · rw [if_neg (fun z => z h1)]
        by_cases h2 : 1 ≤ r ∧ r ≤ 1000000000
        · rw [if_neg (fun z => z h2), w32e (by first | decide | omega) (by first | decide | omega), if_pos (by first | decide | omega)]
        · rw [if_pos h2]
      · rw [if_pos h1]
end
end
section
-- 40.look
/-! look, about, sign -/
section
variable {L : Nat} {xs : Nat → Int} {d : Nat} {S S' : AH} {o : Nat}
theorem itS {P : Prop} [Decidable P] {a b : Int} {S : AH} : (some ((if P then a else b), S) : Rs) = if P then some (a, S) else some (b, S) := by
  by_cases h : P
  · rw [if_pos h, if_pos h]
  · rw [if_neg h, if_neg h]
theorem m_cby (H : Inv S) {c : Nat} (hc : (c : Int) < S.2 72 52) : ev (WK L xs) (d + 1) 249 [vr 72, vi (c : Int)] S = some (cby S.2 c, S) := by
  have hn := H.gk.n
  obtain ⟨r1, r2, r3, r4, r5, r6, r7, -⟩ := H.gk.1.2.2.2.1 c hc
  have hv := H.gv.1.1
  have hq : (0 : Int) ≤ (c : Int) ∧ (c : Int) < 300 := by omega
  rw [q_249]
  simp only [if_pos hq, Int.toNat_natCast]
  unfold cby
  by_cases h1 : S.2 116 c = -1
  · rw [if_pos h1, if_neg (fun z => z.1 h1)]
  · have hb : 0 ≤ S.2 116 c ∧ S.2 116 c < 80 := by omega
    rw [if_neg h1, if_pos hb, if_pos hb, if_pos hb]
    by_cases h2 : S.2 97 (S.2 116 c).toNat = 4
    · rw [if_pos h2]
      by_cases h3 : S.2 102 (S.2 116 c).toNat = -1
      · rw [if_pos h3, if_neg (fun z => z.2.2 h3)]
      · rw [if_neg h3, if_pos ⟨h1, h2, h3⟩]
    · rw [if_neg h2, if_neg (fun z => h2 z.2.1)]
theorem o_look (H : Inv S) (p q : Int) : Ok L xs 66 316 [vi p, vi q] S := by
  have gk := H.gk
  have hn := gk.n
  by_cases hp : 0 ≤ p ∧ p < S.2 72 52
  · obtain ⟨c, hc⟩ := Int.eq_ofNat_of_zero_le hp.1
    subst hc
    have ho := gk.ob hp.2
    have h5 := ho.1
    obtain ⟨a1, a2, a3, a4, a5, a6, a7, a8, a9, a10, a11, a12, a13, a14, a15, a16⟩ := gk.2.2.2.2.1 c hp.2
    have hq : (0 : Int) ≤ (c : Int) ∧ (c : Int) < 300 := by omega
    refine Ok.same (r := if q = 0 then S.2 108 c else if q = 1 then S.2 109 c else if q = 2 then S.2 110 c else if q = 3 then S.2 111 c else if q = 4 then S.2 112 c else if q = 5 then (if S.2 113 c = 0 then 0 else 1) else if q = 6 then S.2 114 c else if q = 7 then S.2 115 c else if q = 8 then cby S.2 c else if q = 9 then S.2 118 c else -1) H ?_ ?_
    · rw [q_66, x_cl gk hp.2, bR, Int.toNat_natCast, if_neg (by first | decide | omega), g14 ho]
      simp only [k12 ho, rdvD h5, a2, a3, a4, a5, a6, a7, a8, a9, a11, a12]
      first | (simp only [itS]; done) | (simp only [itS]; rfl) | ((repeat' split) <;> rfl)
    · rw [q_316, m_isClaim gk.1, bR]
      simp only [bi_0, if_pos hq, Int.toNat_natCast, m_cby H hp.2, bR]
      rw [if_neg (fun z => z hp)]
      first | (simp only [itS]; done) | (simp only [itS]; rfl) | ((repeat' split) <;> rfl)
  · refine Ok.same (r := -1) H ?_ ?_
    · rw [q_66, x_cl0 gk hp, bR, if_pos (by decide)]
    · rw [q_316, m_isClaim gk.1, bR]
      simp only [bi_0]
      rw [if_pos hp]
theorem g14a (h : isO S o 11 14) (r : Rs) : gd (!(Nat.beq o 14)) r = r := by
  have : Nat.beq o 14 = false := by
    cases e : Nat.beq o 14 with
    | false => rfl
    | true =>
      have := Nat.eq_of_beq_eq_true e
      have := h.1
      omega
  rw [this]
  rfl
theorem k11 (h : isO S o 11 14) (r : Rs) : gd (Nat.beq (shp (WK L xs) S o).1 11) r = r := by
  rw [shpD h.1, h.2.2]
  rfl
theorem x_au (H : GV S) {v : Nat} (hv : (v : Int) < S.2 72 40) : ev (WK L xs) (d + 1) 168 [vr 36, vi (v : Int)] S = some ((auA S v : Int), S) := by
  have := H.1.1
  rw [q_168, H.2.1, if_neg (by first | decide | omega), if_pos hv, if_pos (by first | decide | omega), Int.toNat_natCast]
  rfl
theorem x_au0 (H : GV S) {p : Int} (hc : ¬ (0 ≤ p ∧ p < S.2 72 40)) : ev (WK L xs) (d + 1) 168 [vr 36, vi p] S = some (0, S) := by
  rw [q_168, H.2.1]
  by_cases h : p < 0
  · rw [if_pos h]
  · rw [if_neg h, if_neg (by first | decide | omega)]
theorem m_isAu (H : RV S.2) (p : Int) : ev (WK L xs) (d + 2) 241 [vr 72, vi p] S = some (bi (0 ≤ p ∧ p < S.2 72 40), S) := by
  have := H.1
  rw [q_241, m_lies, bR, w32e (by first | decide | omega) (by first | decide | omega), if_pos (by rw [bi_01]; trivial)]
  congr 2
  apply bi_iff
  omega
theorem x_clauses {a t : Nat} (H : TX S a t) : Nat.beq (shp (WK L xs) S a).1 19 = true ∧ ev (WK L xs) (d + 1) 161 [vr a] S = some (S.2 78 t, S) := by
  obtain ⟨x, ⟨h1, -⟩, h2⟩ := H
  rcases h2 with ⟨e1, e2⟩ | ⟨b1, b, s, v, n, b2, b3, b4, b5, b6, b7, b8, b9, b10⟩
  · subst e1 e2
    refine ⟨rfl, ?_⟩
    rw [q_161, h1]
    rfl
  · have hs : shp (WK L xs) S a = (19, 3) := by rw [shpD b1.1]; exact b1.2.2
    refine ⟨by rw [hs]; rfl, ?_⟩
    rw [q_161, hs, rdvD b1.1, b3, Int.toNat_natCast, shpD b6.1, b6.2.2, h1]
    rfl
theorem tw20 {v : Nat} (h : (v : Int) < 80) : w32 (20 + (v : Int)) = 20 + (v : Int) := w32e (by first | decide | omega) (by first | decide | omega)
theorem tn20 (v : Nat) : (20 + (v : Int)).toNat = 20 + v := by omega
theorem th20 {v : Nat} (h : (v : Int) < 80) : 0 ≤ 20 + (v : Int) ∧ 20 + (v : Int) < 100 := by omega
end
end
section
-- 40a.about
/-! 40a.about -/
section
variable {L : Nat} {xs : Nat → Int} {d : Nat} {S S' : AH} {o : Nat}
theorem o_about (H : Inv S) (p q : Int) : Ok L xs 67 317 [vi p, vi q] S := by
  have gv := H.gv
  have hn := gv.1.1
  by_cases hp : 0 ≤ p ∧ p < S.2 72 40
  · obtain ⟨v, hv⟩ := Int.eq_ofNat_of_zero_le hp.1
    subst hv
    have hv80 : (v : Int) < 80 := by omega
    have e20 : w32 (20 + (v : Int)) = 20 + (v : Int) := tw20 hv80
    have e21 : (20 + (v : Int)).toNat = 20 + v := tn20 v
    have hq1 : 0 ≤ 20 + (v : Int) ∧ 20 + (v : Int) < 100 := th20 hv80
    obtain ⟨a1, a2, a3, a4, a5, a6, a7, a8, a9, a10, a11, a12, a13, a14, a15, a16⟩ := gv.2.2.2.1 v hp.2
    have h5 := a1.1
    have hq : (0 : Int) ≤ (v : Int) ∧ (v : Int) < 80 := by omega
    have h50 : ¬ auA S v = 0 := by omega
    obtain ⟨t1, t2⟩ := x_clauses (L := L) (xs := xs) (d := 198) a15
    have hg : ∀ r : Rs, gd (Nat.beq (shp (WK L xs) S (S.2 (auA S v) 5).toNat).1 19 && Nat.ble 0 8) r = r := fun r => by rw [t1]; rfl
    refine Ok.same (r := if q = 0 then S.2 97 v else if q = 1 then S.2 98 v else if q = 2 then S.2 99 v else if q = 3 then S.2 100 v else if q = 4 then S.2 78 (20 + v) else if q = 5 then S.2 101 v else if q = 6 then S.2 102 v else if q = 7 then S.2 104 v else -1) H ?_ ?_
    · rw [q_67, x_au gv hp.2, bR, Int.toNat_natCast, if_neg h50, g14a a1]
      simp only [k11 a1, rdvD h5, hg, t2, bR, a3, a4, a5, a6, a7, a8, a9, a10]
      by_cases hk : S.2 97 v = 1
      · simp only [if_pos hk]
        first | (simp only [itS]; done) | (simp only [itS]; rfl) | ((repeat' split) <;> rfl)
      · simp only [if_neg hk]
        first | (simp only [itS]; done) | (simp only [itS]; rfl) | ((repeat' split) <;> rfl)
    · rw [q_317, m_isAu gv.1, bR, e20]
      simp only [bi_0, if_pos hq, Int.toNat_natCast, e21]
      rw [if_neg (fun z => z hp), if_pos hq1]
      first | (simp only [itS]; done) | (simp only [itS]; rfl) | ((repeat' split) <;> rfl)
  · refine Ok.same (r := -1) H ?_ ?_
    · rw [q_67, x_au0 gv hp, bR, if_pos (by decide)]
    · rw [q_317, m_isAu gv.1, bR]
      simp only [bi_0]
      rw [if_pos hp]
end
end
section
-- 40b.claims
/-! 40b.claims -/
section
variable {L : Nat} {xs : Nat → Int} {d : Nat} {S S' : AH} {o : Nat}
/-- claims and charges may change -/
theorem Inv.cgk (H : Inv S) (hS : S'.1 = S.1) (hF : ∀ a, 151 ≤ a → (∀ c : Nat, (c : Int) < S.2 72 52 → a ≠ clA S c) → S'.2 a = S.2 a) (hc : ∀ a, a < 151 → a ≠ 21 → a ≠ 43 → ¬ (46 ≤ a ∧ a ≤ 49) → a ≠ 72 → a ≠ 77 → a ≠ 114 → ¬ (118 ≤ a ∧ a ≤ 123) → ¬ (146 ≤ a ∧ a ≤ 149) → S'.2 a = S.2 a) (hk : ∀ k, k ≠ 102 → S'.2 72 k = S.2 72 k) (gp : GP S'.2) (gk : GK S') : Inv S' := by
  obtain ⟨i1, gt, gc, gx, gb, -, gl, gv, gk0, gu, gw, gn⟩ := H
  have hFx : Fx (fun a => ∃ c : Nat, (c : Int) < S.2 72 52 ∧ a = clA S c) S S' := by
    refine ⟨by rw [hS]; exact Nat.le_refl _, fun a q1 q2 => ⟨by rw [hS], fun q => hF a q1 (fun c hcl e => q ⟨c, hcl, e⟩)⟩⟩
  have hX : Xt (fun a => ∃ c : Nat, (c : Int) < S.2 72 52 ∧ a = clA S c) S := by
    rintro a ⟨c, q1, q2⟩
    have := (gk0.ob q1).2.2
    rw [q2, this]
    omega
  have C : ∀ a, a < 114 → a ≠ 21 → (a < 43 ∨ (43 < a ∧ a < 46) ∨ (49 < a ∧ a < 72) ∨ (72 < a ∧ a < 77) ∨ 77 < a) → S'.2 a = S.2 a := fun a q1 q2 q3 => hc a (by first | decide | omega) (by first | decide | omega) (by first | decide | omega) (by first | decide | omega) (by first | decide | omega) (by first | decide | omega) (by first | decide | omega) (by first | decide | omega) (by first | decide | omega)
  have C2 : ∀ a, (114 < a ∧ a < 118) ∨ (123 < a ∧ a < 146) → S'.2 a = S.2 a := fun a q1 => hc a (by first | decide | omega) (by first | decide | omega) (by first | decide | omega) (by first | decide | omega) (by first | decide | omega) (by first | decide | omega) (by first | decide | omega) (by first | decide | omega) (by first | decide | omega)
  have K := hk
  have c15 := C 15 (by first | decide | omega) (by first | decide | omega) (by first | decide | omega)
  have hm : HM S.2 S'.2 := by
    unfold HM
    rw [K 4 (by first | decide | omega), K 5 (by first | decide | omega)]
    omega
  refine ⟨by rw [hS]; exact i1, gt.fr (by rw [c15]) (K _ (by first | decide | omega)), gc.fr (by rw [c15]) (K _ (by first | decide | omega)), gx.fr (by rw [c15]) (K _ (by first | decide | omega)), ?_, gp, gl.fx hFx hX (fun a q => C a (by first | decide | omega) (by first | decide | omega) (by first | decide | omega)) (K _ (by first | decide | omega)) (fun t x _ q => q.cells (fun a q1 q2 => C a (by first | decide | omega) (by first | decide | omega) (by first | decide | omega))), ?_, gk, ?_, ?_, ?_⟩
  · exact gb.fr (by rw [c15]) (K _ (by first | decide | omega)) (C _ (by first | decide | omega) (by first | decide | omega) (by first | decide | omega)) (C _ (by first | decide | omega) (by first | decide | omega) (by first | decide | omega))
  · refine gv.fx hFx hX (fun v hv => ⟨?_, ?_⟩) (fun a q => ?_) (fun k _ => K k (by first | decide | omega)) hm ?_ ?_
    · rintro ⟨c, q1, q2⟩
      have z1 := (gk0.ob q1).2.2
      have z2 := (gv.2.2.2.1 v hv).1.2.2
      rw [q2, z1] at z2
      cases z2
    · rintro ⟨c, q1, q2⟩
      have z1 := (gk0.ob q1).2.2
      have z2 := (gv.2.2.2.1 v hv).2.1.2.2
      rw [q2, z1] at z2
      cases z2
    · by_cases q3 : a < 114
      · exact C a q3 (by first | decide | omega) (by first | decide | omega)
      · exact C2 a (by first | decide | omega)
    · exact pby_fr (C2 _ (by first | decide | omega)) (C2 _ (by first | decide | omega)) (C _ (by first | decide | omega) (by first | decide | omega) (by first | decide | omega)) (C _ (by first | decide | omega) (by first | decide | omega) (by first | decide | omega)) (C _ (by first | decide | omega) (by first | decide | omega) (by first | decide | omega)) (K _ (by first | decide | omega))
    · exact pct_fr (C2 _ (by first | decide | omega)) (C _ (by first | decide | omega) (by first | decide | omega) (by first | decide | omega)) (C _ (by first | decide | omega) (by first | decide | omega) (by first | decide | omega)) (K _ (by first | decide | omega))
  · refine gu.fr (K _ (by first | decide | omega)) (by rw [C 50 (by first | decide | omega) (by first | decide | omega) (by first | decide | omega)]) (by rw [C 50 (by first | decide | omega) (by first | decide | omega) (by first | decide | omega)]) (fun a ha => ?_)
    by_cases q3 : a < 114
    · exact C a q3 (by first | decide | omega) (by first | decide | omega)
    · exact C2 a (by first | decide | omega)
  · refine gw.fr (K _ (by first | decide | omega)) (K _ (by first | decide | omega)) (by rw [C 54 (by first | decide | omega) (by first | decide | omega) (by first | decide | omega)]) (by rw [C 54 (by first | decide | omega) (by first | decide | omega) (by first | decide | omega)]) (fun a ha => ?_)
    by_cases q3 : a < 114
    · exact C a q3 (by first | decide | omega) (by first | decide | omega)
    · exact C2 a (by first | decide | omega)
  · refine gn.fr (K _ (by first | decide | omega)) (K _ (by first | decide | omega)) (K _ (by first | decide | omega)) (by rw [C 63 (by first | decide | omega) (by first | decide | omega) (by first | decide | omega)]) (by rw [C 63 (by first | decide | omega) (by first | decide | omega) (by first | decide | omega)]) (by rw [C 63 (by first | decide | omega) (by first | decide | omega) (by first | decide | omega)]) (fun a ha => ?_)
    by_cases q3 : a < 114
    · exact C a q3 (by first | decide | omega) (by first | decide | omega)
    · exact C2 a (by first | decide | omega)
theorem AK.re {c : Nat} (H : AK S c) (hS : S'.1 = S.1) (h44 : S'.2 44 = S.2 44) (ho : S'.2 (clA S c) = S.2 (clA S c)) (hc : ∀ a, 108 ≤ a → a ≤ 123 → S'.2 a c = S.2 a c) (hb : cby S'.2 c = cby S.2 c) : AK S' c := by
  have ecl : clA S' c = clA S c := by unfold clA; rw [h44]
  unfold AK at H ⊢
  rw [ecl, ho, hb, hc 108 (by first | decide | omega) (by first | decide | omega), hc 109 (by first | decide | omega) (by first | decide | omega), hc 110 (by first | decide | omega) (by first | decide | omega), hc 111 (by first | decide | omega) (by first | decide | omega), hc 112 (by first | decide | omega) (by first | decide | omega), hc 113 (by first | decide | omega) (by first | decide | omega), hc 114 (by first | decide | omega) (by first | decide | omega), hc 115 (by first | decide | omega) (by first | decide | omega), hc 116 (by first | decide | omega) (by first | decide | omega), hc 118 (by first | decide | omega) (by first | decide | omega), hc 119 (by first | decide | omega) (by first | decide | omega), hc 120 (by first | decide | omega) (by first | decide | omega), hc 121 (by first | decide | omega) (by first | decide | omega), hc 122 (by first | decide | omega) (by first | decide | omega), hc 123 (by first | decide | omega) (by first | decide | omega)]
  refine ⟨?_, H.2⟩
  unfold isO
  rw [hS]
  exact H.1
end
end
section
-- 40c.sign
/-! 40c.sign -/
section
variable {L : Nat} {xs : Nat → Int} {d : Nat} {S S' : AH} {o : Nat}
theorem o_sign (H : Inv S) (p q : Int) : Ok L xs 26 258 [vi p, vi q] S := by
  have gk := H.gk
  have gp := H.gp
  have hn := gk.n
  obtain ⟨⟨hd1, hd2⟩, ⟨hh1, hh2⟩, -, hhd⟩ := gp.1
  have ehn := gp.2.2.1
  by_cases hp : 0 ≤ p ∧ p < S.2 72 52
  · obtain ⟨c, hc⟩ := Int.eq_ofNat_of_zero_le hp.1
    subst hc
    have ho := gk.ob hp.2
    have h5 := ho.1
    obtain ⟨a1, a2, a3, a4, a5, a6, a7, a8, a9, a10, a11, a12, a13, a14, a15, a16⟩ := gk.2.2.2.2.1 c hp.2
    obtain ⟨r1, r2, r3, r4, r5, r6, r7, r8, r9, r10, r11, r12, r13⟩ := gk.1.2.2.2.1 c hp.2
    have hq : (0 : Int) ≤ (c : Int) ∧ (c : Int) < 300 := by omega
    by_cases hh : 0 ≤ q ∧ q < S.2 72 5
    · obtain ⟨w, hw⟩ := Int.eq_ofNat_of_zero_le hh.1
      subst hw
      obtain ⟨z1, z2⟩ := gp.2.2.2.2.1 w hh.2
      obtain ⟨y1, y2, y3, y4⟩ := hhd w hh.2
      have hq2 : (0 : Int) ≤ (w : Int) ∧ (w : Int) < 16 := by omega
      have hbit : iand (ishr (S.2 114 c) (w : Int)) 1 = if (S.2 114 c).toNat.testBit w then 1 else 0 := by
        have := ibit (S.2 114 c) (w : Int) r6.1 (by first | decide | omega) (by first | decide | omega) (by first | decide | omega)
        rw [Int.toNat_natCast] at this
        exact this
      have hdof : ∀ d, ev (WK L xs) (d + 2) 130 [vr 17, vi (w : Int)] S = some (S.2 75 w, S) := by
        intro d
        rw [q_130, x_isHand, bR, ehn]
        simp only [bi_0]
        rw [if_neg (fun z => z hh), if_pos hq2, Int.toNat_natCast, z1]
      by_cases hk : S.2 115 c = -1 ∧ S.2 108 c ≠ w ∧ (S.2 114 c).toNat.testBit w = false ∧ uN S.2 (S.2 109 c) (S.2 75 w) = true
      · obtain ⟨k1, k2, k3, k4⟩ := hk
        obtain ⟨s, hs⟩ := Int.eq_ofNat_of_zero_le r6.1
        have hior : ior (S.2 114 c) (ishl 1 (w : Int)) = ((s ||| 2 ^ w : Nat) : Int) := by
          rw [hs, ishl_n w (by first | decide | omega), ior_n s (2 ^ w) (by first | decide | omega) (Nat.lt_of_lt_of_le (Nat.pow_lt_pow_right (by decide) (show w < 16 by omega)) (by decide))]
        have hlt : s ||| 2 ^ w < 65536 := Nat.or_lt_two_pow (n := 16) (by first | decide | omega) (Nat.pow_lt_pow_right (by decide) (by first | decide | omega))
        refine ⟨1, wr S (clA S c) 6 ((s ||| 2 ^ w : Nat) : Int), wr (wr S (clA S c) 6 ((s ||| 2 ^ w : Nat) : Int)) 114 c ((s ||| 2 ^ w : Nat) : Int), ?_, ?_, ?_, Gw.of rfl⟩
        · rw [q_26, x_cl gk hp.2, bR, Int.toNat_natCast, if_neg (by first | decide | omega), g14 ho, k12a ho, x_isPaid ho, bR]
          simp only [bi_0]
          rw [a9, if_pos (fun z => z k1), x_isHand, bR, ehn]
          simp only [bi_0]
          rw [if_neg (fun z => z hh), k12 ho, rdvD h5, a2, if_neg k2, k12 ho, rdvD h5, a8, hbit, k3, if_pos (by rfl), k12 ho, hdof, bR, rdvD h5, a3, x_isUnder gp, bR]
          simp only [bi_0]
          rw [if_neg (fun z => z ⟨r2, ⟨y1, y2⟩, k4⟩), k12 ho, k12w ho, rdvD h5, a8, hior]
        · have e1 : ∀ a, a < 151 → (wr S (clA S c) 6 ((s ||| 2 ^ w : Nat) : Int)).2 a = S.2 a := fun a ha => wr_c (by first | decide | omega)
          have hR' : RK (wr S (clA S c) 6 ((s ||| 2 ^ w : Nat) : Int)).2 := gk.1.fr (fun a ha => e1 a (by first | decide | omega)) (fun k _ => by rw [e1 72 (by first | decide | omega)]) (by unfold HM; rw [e1 72 (by first | decide | omega)]; omega)
          have hP' : GP (wr S (clA S c) 6 ((s ||| 2 ^ w : Nat) : Int)).2 := gp.fr (by rw [e1 72 (by first | decide | omega)]) (by rw [e1 72 (by first | decide | omega)]) (fun a ha => e1 a (by first | decide | omega))
          have huN : uN (wr S (clA S c) 6 ((s ||| 2 ^ w : Nat) : Int)).2 = uN S.2 := by
            funext x y
            unfold uN
            rw [e1 74 (by first | decide | omega)]
          rw [q_258, m_isClaim hR', bR, m_isHand hP'.1, bR]
          simp only [bi_0, e1 72 (by first | decide | omega), e1 108 (by first | decide | omega), e1 109 (by first | decide | omega), e1 114 (by first | decide | omega), e1 115 (by first | decide | omega), e1 75 (by first | decide | omega), Int.toNat_natCast]
          rw [if_neg (fun z => z hp), if_neg (fun z => z hh), if_pos hq, if_neg k2, if_pos hq, hbit, k3, if_neg (by decide), if_pos hq, if_pos hq2, m_isUnder hP'.1 _ _ r2.1 (by rw [e1 72 (by first | decide | omega)]; exact r2.2) y1, bR, huN]
          simp only [bi_0, e1 114 (by first | decide | omega), e1 115 (by first | decide | omega)]
          rw [if_neg (fun z => z k4), if_pos hq, if_pos k1, if_pos hq, if_pos hq, hior]
        · refine H.cgk rfl (fun a q1 q2 => ?_) (fun a q1 q2 q3 q4 q5 q6 q7 q8 q9 => ?_) (fun k hk => ?_) ?_ ?_
          · rw [wr_c (by first | decide | omega), wr_c (q2 c hp.2)]
          · rw [wr_c q7, wr_c (by first | decide | omega)]
          · rw [wr_c (by decide), wr_c (by first | decide | omega)]
          · exact gp.fr (by rw [wr_c (by decide), wr_c (by first | decide | omega)]) (by rw [wr_c (by decide), wr_c (by first | decide | omega)]) (fun a ha => by rw [wr_c (by first | decide | omega), wr_c (by first | decide | omega)])
          · have e2 : ∀ a, a < 151 → a ≠ 114 → (wr (wr S (clA S c) 6 ((s ||| 2 ^ w : Nat) : Int)) 114 c ((s ||| 2 ^ w : Nat) : Int)).2 a = S.2 a := fun a q1 q2 => by rw [wr_c q2, wr_c (by first | decide | omega)]
            have e3 : ∀ j, (wr (wr S (clA S c) 6 ((s ||| 2 ^ w : Nat) : Int)) 114 c ((s ||| 2 ^ w : Nat) : Int)).2 114 j = if j = c then ((s ||| 2 ^ w : Nat) : Int) else S.2 114 j := fun j => by rw [wr_f, wr_c (show 114 ≠ clA S c by omega)]
            have e4 : ∀ a, 151 ≤ a → a ≠ clA S c → (wr (wr S (clA S c) 6 ((s ||| 2 ^ w : Nat) : Int)) 114 c ((s ||| 2 ^ w : Nat) : Int)).2 a = S.2 a := fun a q1 q2 => by rw [wr_c (by first | decide | omega), wr_c q2]
            have e5 : ∀ k, (wr (wr S (clA S c) 6 ((s ||| 2 ^ w : Nat) : Int)) 114 c ((s ||| 2 ^ w : Nat) : Int)).2 (clA S c) k = if k = 6 then ((s ||| 2 ^ w : Nat) : Int) else S.2 (clA S c) k := fun k => by rw [wr_c (show clA S c ≠ 114 by omega), wr_f]
            generalize hT : wr (wr S (clA S c) 6 ((s ||| 2 ^ w : Nat) : Int)) 114 c ((s ||| 2 ^ w : Nat) : Int) = T at e2 e3 e4 e5 ⊢
            have hT1 : T.1 = S.1 := by rw [← hT]; rfl
            obtain ⟨h1, h2, h3, h4, h6, h7, h8, h9, h10, h11, h12⟩ := gk
            have ecb : cby T.2 = cby S.2 := cby_fr (e2 116 (by first | decide | omega) (by first | decide | omega)) (e2 97 (by first | decide | omega) (by first | decide | omega)) (e2 102 (by first | decide | omega) (by first | decide | omega))
            have ecl : ∀ e, clA T e = clA S e := fun e => by unfold clA; rw [e2 44 (by first | decide | omega) (by first | decide | omega)]
            unfold GK nClaims
            rw [e2 72 (by first | decide | omega) (by first | decide | omega), e2 43 (by first | decide | omega) (by first | decide | omega), e2 45 (by first | decide | omega) (by first | decide | omega), e2 46 (by first | decide | omega) (by first | decide | omega), e2 47 (by first | decide | omega) (by first | decide | omega), e2 48 (by first | decide | omega) (by first | decide | omega), e2 49 (by first | decide | omega) (by first | decide | omega), e2 111 (by first | decide | omega) (by first | decide | omega), e2 115 (by first | decide | omega) (by first | decide | omega), e2 117 (by first | decide | omega) (by first | decide | omega), e2 146 (by first | decide | omega) (by first | decide | omega), e2 147 (by first | decide | omega) (by first | decide | omega), e2 148 (by first | decide | omega) (by first | decide | omega), e2 149 (by first | decide | omega) (by first | decide | omega)]
            refine ⟨?_, h2, h3, h4, fun e he => ?_, fun e f q1 q2 z => h7 e f q1 q2 (by rw [← ecl, ← ecl]; exact z), h8, h9, h10, h11, h12⟩
            · obtain ⟨u1, u2, u3, u4, u5, u6⟩ := h1
              unfold RK
              rw [e2 72 (by first | decide | omega) (by first | decide | omega), e2 97 (by first | decide | omega) (by first | decide | omega), e2 108 (by first | decide | omega) (by first | decide | omega), e2 109 (by first | decide | omega) (by first | decide | omega), e2 110 (by first | decide | omega) (by first | decide | omega), e2 111 (by first | decide | omega) (by first | decide | omega), e2 112 (by first | decide | omega) (by first | decide | omega), e2 113 (by first | decide | omega) (by first | decide | omega), e2 115 (by first | decide | omega) (by first | decide | omega), e2 116 (by first | decide | omega) (by first | decide | omega), e2 117 (by first | decide | omega) (by first | decide | omega), e2 118 (by first | decide | omega) (by first | decide | omega), e2 119 (by first | decide | omega) (by first | decide | omega), e2 120 (by first | decide | omega) (by first | decide | omega), e2 121 (by first | decide | omega) (by first | decide | omega), e2 122 (by first | decide | omega) (by first | decide | omega), e2 123 (by first | decide | omega) (by first | decide | omega), e2 147 (by first | decide | omega) (by first | decide | omega), e2 148 (by first | decide | omega) (by first | decide | omega)]
              refine ⟨u1, u2, u3, fun e he => ?_, fun e q1 q2 => ?_, u6⟩
              · obtain ⟨b1, b2, b3, b4, b5, b6, b7⟩ := u4 e he
                refine ⟨b1, b2, b3, b4, b5, ?_, b7⟩
                rw [e3]
                by_cases hec : e = c
                · rw [if_pos hec]
                  omega
                · rw [if_neg hec]
                  exact b6
              · rw [e3, if_neg (by first | decide | omega)]
                exact u5 e q1 q2
            · by_cases hec : e = c
              · subst hec
                unfold AK
                rw [ecl, ecb, e2 108 (by first | decide | omega) (by first | decide | omega), e2 109 (by first | decide | omega) (by first | decide | omega), e2 110 (by first | decide | omega) (by first | decide | omega), e2 111 (by first | decide | omega) (by first | decide | omega), e2 112 (by first | decide | omega) (by first | decide | omega), e2 113 (by first | decide | omega) (by first | decide | omega), e2 115 (by first | decide | omega) (by first | decide | omega), e2 116 (by first | decide | omega) (by first | decide | omega), e2 118 (by first | decide | omega) (by first | decide | omega), e2 119 (by first | decide | omega) (by first | decide | omega), e2 120 (by first | decide | omega) (by first | decide | omega), e2 121 (by first | decide | omega) (by first | decide | omega), e2 122 (by first | decide | omega) (by first | decide | omega), e2 123 (by first | decide | omega) (by first | decide | omega), e3, if_pos rfl]
                simp only [e5]
                refine ⟨?_, a2, a3, a4, a5, a6, a7, rfl, a9, a10, a11, a12, a13, a14, a15, a16⟩
                unfold isO
                rw [hT1]
                exact a1
              · have hne : clA S e ≠ clA S c := fun z => hec (h7 e c he hp.2 z)
                refine (h6 e he).re hT1 (e2 44 (by first | decide | omega) (by first | decide | omega)) (e4 _ (h6 e he).1.1 hne) (fun a q1 q2 => ?_) (by rw [ecb])
                by_cases q3 : a = 114
                · rw [q3, e3, if_neg hec]
                · rw [e2 a (by first | decide | omega) q3]
      · refine Ok.same (r := 0) H ?_ ?_
        · rw [q_26, x_cl gk hp.2, bR, Int.toNat_natCast, if_neg (by first | decide | omega), g14 ho, k12a ho, x_isPaid ho, bR]
          simp only [bi_0]
          rw [a9]
          by_cases h1 : S.2 115 c = -1
          · rw [if_pos (fun z => z h1), x_isHand, bR, ehn]
            simp only [bi_0]
            rw [if_neg (fun z => z hh), k12 ho, rdvD h5, a2]
            by_cases h2 : S.2 108 c = w
            · rw [if_pos h2]
            · rw [if_neg h2, k12 ho, rdvD h5, a8, hbit]
              cases h3 : (S.2 114 c).toNat.testBit w with
              | true => rw [if_neg (by decide)]
              | false =>
                rw [if_pos (by rfl), k12 ho, hdof, bR, rdvD h5, a3, x_isUnder gp, bR]
                simp only [bi_0]
                rw [if_pos (fun z => hk ⟨h1, h2, h3, z.2.2⟩)]
          · rw [if_neg (fun z => z h1)]
        · rw [q_258, m_isClaim gk.1, bR, m_isHand gp.1, bR]
          simp only [bi_0, Int.toNat_natCast]
          rw [if_neg (fun z => z hp), if_neg (fun z => z hh), if_pos hq]
          by_cases h2 : S.2 108 c = w
          · rw [if_pos h2]
          · rw [if_neg h2, if_pos hq, hbit]
            cases h3 : (S.2 114 c).toNat.testBit w with
            | true => rw [if_pos (by rfl)]
            | false =>
              rw [if_neg (by decide), if_pos hq, if_pos hq2, m_isUnder gp.1 _ _ r2.1 r2.2 y1, bR]
              simp only [bi_0]
              by_cases h4 : uN S.2 (S.2 109 c) (S.2 75 w) = true
              · rw [if_neg (fun z => z h4), if_pos hq, if_neg (fun z => hk ⟨z, h2, h3, h4⟩)]
              · rw [if_pos h4]
    · refine Ok.same (r := 0) H ?_ ?_
      · rw [q_26, x_cl gk hp.2, bR, Int.toNat_natCast, if_neg (by first | decide | omega), g14 ho, k12a ho, x_isPaid ho, bR]
        simp only [bi_0]
        rw [a9]
        by_cases h1 : S.2 115 c = -1
        · rw [if_pos (fun z => z h1), x_isHand, bR, ehn]
          simp only [bi_0]
          rw [if_pos hh]
        · rw [if_neg (fun z => z h1)]
      · rw [q_258, m_isClaim gk.1, bR, m_isHand gp.1, bR]
        simp only [bi_0]
        rw [if_neg (fun z => z hp), if_pos hh]
  · refine Ok.same (r := 0) H ?_ ?_
    · rw [q_26, x_cl0 gk hp, bR, if_pos (by decide)]
    · rw [q_258, m_isClaim gk.1, bR]
      simp only [bi_0]
      rw [if_pos hp]
end
end
section
-- 41.find
/-! find -/
section
variable {L : Nat} {xs : Nat → Int} {d : Nat} {S S' : AH} {o : Nat}
theorem find_inv (H : Inv S) {c n : Nat} {q w day : Int} (hcl : (c : Int) < S.2 72 52) (hn : S.2 72 102 = n) (hn1 : n < 100) (hd : S.2 115 c ≠ -1) (hq : 1 ≤ q ∧ q ≤ 1000000000) (hw : 0 ≤ w ∧ w ≤ S.2 111 c) {T : AH} (hT1 : T.1 = S.1)
    (e2 : ∀ a, a < 151 → a ≠ 43 → ¬ (47 ≤ a ∧ a ≤ 49) → a ≠ 72 → a ≠ 123 → ¬ (147 ≤ a ∧ a ≤ 149) → T.2 a = S.2 a) (e43 : ∀ k, T.2 43 k = if k = 9 then (n : Int) + 1 else S.2 43 k) (e72 : ∀ k, T.2 72 k = if k = 102 then (n : Int) + 1 else S.2 72 k)
    (e47 : ∀ f, T.2 47 f = if f = n then (c : Int) else S.2 47 f) (e48 : ∀ f, T.2 48 f = if f = n then q else S.2 48 f) (e49 : ∀ f, T.2 49 f = if f = n then day else S.2 49 f) (e147 : ∀ f, T.2 147 f = if f = n then (c : Int) else S.2 147 f) (e148 : ∀ f, T.2 148 f = if f = n then q else S.2 148 f) (e149 : ∀ f, T.2 149 f = if f = n then day else S.2 149 f)
    (e123 : ∀ j, T.2 123 j = if j = c then w else S.2 123 j) (e4 : ∀ a, 151 ≤ a → a ≠ clA S c → T.2 a = S.2 a) (e5 : ∀ k, T.2 (clA S c) k = if k = 14 then w else S.2 (clA S c) k) : Inv T := by
  have gk := H.gk
  refine H.cgk hT1 (fun a q1 q2 => e4 a q1 (q2 c hcl)) (fun a q1 q2 q3 q4 q5 q6 q7 q8 q9 => e2 a q1 q3 (by first | decide | omega) q5 (by first | decide | omega) (by first | decide | omega)) (fun k hk => by rw [e72, if_neg hk]) ?_ ?_
  · exact H.gp.fr (by rw [e72, if_neg (by decide)]) (by rw [e72, if_neg (by decide)]) (fun a ha => e2 a (by first | decide | omega) (by first | decide | omega) (by first | decide | omega) (by first | decide | omega) (by first | decide | omega) (by first | decide | omega))
  · obtain ⟨h1, h2, h3, h4, h6, h7, h8, h9, h10, h11, h12⟩ := gk
    have c' : ∀ a, a < 123 → a ≠ 43 → (a < 47 ∨ (49 < a ∧ a < 72) ∨ 72 < a) → T.2 a = S.2 a := fun a q1 q2 q3 => e2 a (by first | decide | omega) q2 (by first | decide | omega) (by first | decide | omega) (by first | decide | omega) (by first | decide | omega)
    have ecb : cby T.2 = cby S.2 := cby_fr (c' 116 (by first | decide | omega) (by first | decide | omega) (by first | decide | omega)) (c' 97 (by first | decide | omega) (by first | decide | omega) (by first | decide | omega)) (c' 102 (by first | decide | omega) (by first | decide | omega) (by first | decide | omega))
    have ecl : ∀ e, clA T e = clA S e := fun e => by unfold clA; rw [c' 44 (by first | decide | omega) (by first | decide | omega) (by first | decide | omega)]
    have k52 : T.2 72 52 = S.2 72 52 := by rw [e72, if_neg (by decide)]
    have k53 : T.2 72 53 = S.2 72 53 := by rw [e72, if_neg (by decide)]
    have k40 : T.2 72 40 = S.2 72 40 := by rw [e72, if_neg (by decide)]
    have k70 : T.2 72 70 = S.2 72 70 := by rw [e72, if_neg (by decide)]
    have k4 : T.2 72 4 = S.2 72 4 := by rw [e72, if_neg (by decide)]
    have k5 : T.2 72 5 = S.2 72 5 := by rw [e72, if_neg (by decide)]
    have k102 : T.2 72 102 = (n : Int) + 1 := by rw [e72, if_pos rfl]
    have x1 : T.2 43 1 = S.2 43 1 := by rw [e43, if_neg (by decide)]
    have x3 : T.2 43 3 = S.2 43 3 := by rw [e43, if_neg (by decide)]
    have x4 : T.2 43 4 = S.2 43 4 := by rw [e43, if_neg (by decide)]
    have x9 : T.2 43 9 = (n : Int) + 1 := by rw [e43, if_pos rfl]
    unfold GK nClaims
    rw [k52, k53, k102, x1, x3, x4, x9, c' 45 (by first | decide | omega) (by first | decide | omega) (by first | decide | omega), c' 46 (by first | decide | omega) (by first | decide | omega) (by first | decide | omega), c' 111 (by first | decide | omega) (by first | decide | omega) (by first | decide | omega), c' 115 (by first | decide | omega) (by first | decide | omega) (by first | decide | omega), c' 117 (by first | decide | omega) (by first | decide | omega) (by first | decide | omega), e2 146 (by first | decide | omega) (by first | decide | omega) (by first | decide | omega) (by first | decide | omega) (by first | decide | omega) (by first | decide | omega)]
    refine ⟨?_, h2, h3, rfl, fun e he => ?_, fun e f q1 q2 z => h7 e f q1 q2 (by rw [← ecl, ← ecl]; exact z), h8, h9, h10, h11, fun f hf => ?_⟩
    · obtain ⟨u1, u2, u3, u4, u5, u6⟩ := h1
      unfold RK
      rw [k52, k53, k102, k40, k70, k4, k5, c' 97 (by first | decide | omega) (by first | decide | omega) (by first | decide | omega), c' 108 (by first | decide | omega) (by first | decide | omega) (by first | decide | omega), c' 109 (by first | decide | omega) (by first | decide | omega) (by first | decide | omega), c' 110 (by first | decide | omega) (by first | decide | omega) (by first | decide | omega), c' 111 (by first | decide | omega) (by first | decide | omega) (by first | decide | omega), c' 112 (by first | decide | omega) (by first | decide | omega) (by first | decide | omega), c' 113 (by first | decide | omega) (by first | decide | omega) (by first | decide | omega), c' 114 (by first | decide | omega) (by first | decide | omega) (by first | decide | omega), c' 115 (by first | decide | omega) (by first | decide | omega) (by first | decide | omega), c' 116 (by first | decide | omega) (by first | decide | omega) (by first | decide | omega), c' 117 (by first | decide | omega) (by first | decide | omega) (by first | decide | omega), c' 118 (by first | decide | omega) (by first | decide | omega) (by first | decide | omega), c' 119 (by first | decide | omega) (by first | decide | omega) (by first | decide | omega), c' 120 (by first | decide | omega) (by first | decide | omega) (by first | decide | omega), c' 121 (by first | decide | omega) (by first | decide | omega) (by first | decide | omega), c' 122 (by first | decide | omega) (by first | decide | omega) (by first | decide | omega)]
      refine ⟨u1, u2, by omega, fun e he => ?_, fun e q1 q2 => ?_, fun f hf => ?_⟩
      · obtain ⟨b1, b2, b3, b4, b5, b6, b7, b8, b9, b10, b11, b12, b13⟩ := u4 e he
        refine ⟨b1, b2, b3, b4, b5, b6, b7, b8, b9, b10, b11, b12, ?_⟩
        rw [e123]
        by_cases hec : e = c
        · rw [if_pos hec, hec]
          exact hw
        · rw [if_neg hec]
          exact b13
      · rw [e123, if_neg (by first | decide | omega)]
        exact u5 e q1 q2
      · rw [e147, e148]
        by_cases hfn : f = n
        · rw [if_pos hfn, if_pos hfn, Int.toNat_natCast]
          exact ⟨⟨by omega, hcl, hd⟩, hq⟩
        · rw [if_neg hfn, if_neg hfn]
          exact u6 f (by first | decide | omega)
    · by_cases hec : e = c
      · subst hec
        obtain ⟨a1, a2, a3, a4, a5, a6, a7, a8, a9, a10, a11, a12, a13, a14, a15, a16⟩ := h6 e he
        unfold AK
        rw [ecl, ecb, c' 108 (by first | decide | omega) (by first | decide | omega) (by first | decide | omega), c' 109 (by first | decide | omega) (by first | decide | omega) (by first | decide | omega), c' 110 (by first | decide | omega) (by first | decide | omega) (by first | decide | omega), c' 111 (by first | decide | omega) (by first | decide | omega) (by first | decide | omega), c' 112 (by first | decide | omega) (by first | decide | omega) (by first | decide | omega), c' 113 (by first | decide | omega) (by first | decide | omega) (by first | decide | omega), c' 114 (by first | decide | omega) (by first | decide | omega) (by first | decide | omega), c' 115 (by first | decide | omega) (by first | decide | omega) (by first | decide | omega), c' 116 (by first | decide | omega) (by first | decide | omega) (by first | decide | omega), c' 118 (by first | decide | omega) (by first | decide | omega) (by first | decide | omega), c' 119 (by first | decide | omega) (by first | decide | omega) (by first | decide | omega), c' 120 (by first | decide | omega) (by first | decide | omega) (by first | decide | omega), c' 121 (by first | decide | omega) (by first | decide | omega) (by first | decide | omega), c' 122 (by first | decide | omega) (by first | decide | omega) (by first | decide | omega), e123, if_pos rfl]
        simp only [e5]
        refine ⟨?_, a2, a3, a4, a5, a6, a7, a8, a9, a10, a11, a12, a13, a14, a15, rfl⟩
        unfold isO
        rw [hT1]
        exact a1
      · have hne : clA S e ≠ clA S c := fun z => hec (h7 e c he hcl z)
        refine (h6 e he).re hT1 (c' 44 (by first | decide | omega) (by first | decide | omega) (by first | decide | omega)) (e4 _ (h6 e he).1.1 hne) (fun a q1 q2 => ?_) (by rw [ecb])
        by_cases q3 : a = 123
        · rw [q3, e123, if_neg hec]
        · rw [c' a (by first | decide | omega) (by first | decide | omega) (by first | decide | omega)]
    · rw [e47, e48, e49, e147, e148, e149]
      by_cases hfn : f = n
      · rw [if_pos hfn, if_pos hfn, if_pos hfn, if_pos hfn, if_pos hfn, if_pos hfn]
        exact ⟨rfl, rfl, rfl⟩
      · rw [if_neg hfn, if_neg hfn, if_neg hfn, if_neg hfn, if_neg hfn, if_neg hfn]
        exact h12 f (by first | decide | omega)
theorem o_find (H : Inv S) (p q : Int) : Ok L xs 60 308 [vi p, vi q] S := by
  have gk := H.gk
  have hn := gk.n
  have ht := H.gt.1
  have hfn := gk.1.2.2.1
  have hf2 : S.2 43 9 = S.2 72 102 := gk.2.2.2.1
  by_cases hp : 0 ≤ p ∧ p < S.2 72 52
  · obtain ⟨c, hc⟩ := Int.eq_ofNat_of_zero_le hp.1
    subst hc
    have ho := gk.ob hp.2
    have h5 := ho.1
    obtain ⟨a1, a2, a3, a4, a5, a6, a7, a8, a9, a10, a11, a12, a13, a14, a15, a16⟩ := gk.2.2.2.2.1 c hp.2
    obtain ⟨r1, r2, r3, r4, r5, r6, r7, r8, r9, r10, r11, r12, r13⟩ := gk.1.2.2.2.1 c hp.2
    have hq : (0 : Int) ≤ (c : Int) ∧ (c : Int) < 300 := by omega
    by_cases hk : S.2 72 102 < 100 ∧ S.2 115 c ≠ -1 ∧ 1 ≤ q ∧ q ≤ S.2 111 c - S.2 123 c
    · obtain ⟨k1, k2, k3, k4⟩ := hk
      obtain ⟨n, hnn⟩ := Int.eq_ofNat_of_zero_le hfn.1
      have hfr : (0 : Int) ≤ (n : Int) ∧ (n : Int) < 100 := by omega
      refine ⟨1, wr (wr (wr (wr (wr S (clA S c) 14 (S.2 123 c + q)) 47 n (c : Int)) 48 n q) 49 n (S.2 72 2)) 43 9 ((n : Int) + 1), wr (wr (wr (wr (wr (wr (wr (wr (wr (wr S (clA S c) 14 (S.2 123 c + q)) 47 n (c : Int)) 48 n q) 49 n (S.2 72 2)) 43 9 ((n : Int) + 1)) 123 c (S.2 123 c + q)) 147 n (c : Int)) 148 n q) 149 n (S.2 72 2)) 72 102 ((n : Int) + 1), ?_, ?_, ?_, Gw.of rfl⟩
      · have hcat : ev (WK L xs) 198 80 [vr 43, vi (c : Int)] S = some ((clA S c : Int), S) := x_cl gk hp.2
        rw [q_60, x_cl gk hp.2, bR, Int.toNat_natCast, if_neg (by first | decide | omega), g14 ho, k12a ho, x_isPaid ho, bR]
        simp only [bi_0, lc_gt]
        rw [a9, if_neg (fun z => z k2), if_neg (by first | decide | omega), k12 ho, k12 ho, rdvD h5, rdvD h5, a5, a16, w64e (x := S.2 111 c - S.2 123 c) (by first | decide | omega) (by first | decide | omega), if_neg (by first | decide | omega), q_90, hcat, bR, Int.toNat_natCast, if_neg (by first | decide | omega), g14 ho, hf2, hnn, if_pos (by first | decide | omega), k12 ho, k12w ho, rdvD h5, a16, w64e (x := S.2 123 c + q) (by first | decide | omega) (by first | decide | omega)]
        simp only [wr_c (show 43 ≠ clA S c by omega), hf2, hnn, Int.toNat_natCast]
        rw [if_pos hfr, if_pos hfr, if_pos hfr, bR, if_pos (Or.inr rfl), ht, w32e (by first | decide | omega) (by first | decide | omega)]
      · have e1 : ∀ a, a < 151 → a ≠ 43 → ¬ (47 ≤ a ∧ a ≤ 49) → (wr (wr (wr (wr (wr S (clA S c) 14 (S.2 123 c + q)) 47 n (c : Int)) 48 n q) 49 n (S.2 72 2)) 43 9 ((n : Int) + 1)).2 a = S.2 a := fun a q1 q2 q3 => by rw [wr_c q2, wr_c (by first | decide | omega), wr_c (by first | decide | omega), wr_c (by first | decide | omega), wr_c (by first | decide | omega)]
        have hR' : RK (wr (wr (wr (wr (wr S (clA S c) 14 (S.2 123 c + q)) 47 n (c : Int)) 48 n q) 49 n (S.2 72 2)) 43 9 ((n : Int) + 1)).2 := gk.1.fr (fun a ha => e1 a (by first | decide | omega) (by first | decide | omega) (by first | decide | omega)) (fun k _ => by rw [e1 72 (by first | decide | omega) (by first | decide | omega) (by first | decide | omega)]) (by unfold HM; rw [e1 72 (by first | decide | omega) (by first | decide | omega) (by first | decide | omega)]; omega)
        rw [q_308, e1 72 (by first | decide | omega) (by first | decide | omega) (by first | decide | omega), hnn, if_neg (by first | decide | omega), m_isClaim hR', bR]
        simp only [bi_0, e1 72 (by first | decide | omega) (by first | decide | omega) (by first | decide | omega), e1 115 (by first | decide | omega) (by first | decide | omega) (by first | decide | omega), e1 123 (by first | decide | omega) (by first | decide | omega) (by first | decide | omega), e1 111 (by first | decide | omega) (by first | decide | omega) (by first | decide | omega), Int.toNat_natCast, m_lies, bR, lc_gt, hnn]
        rw [if_neg (fun z => z hp), if_pos hq, if_neg k2, if_neg (by first | decide | omega), if_pos hq, if_pos hq, w64e (x := S.2 123 c + q) (by first | decide | omega) (by first | decide | omega), if_neg (by first | decide | omega), if_pos hq, if_pos hq, if_pos hfr, if_pos hfr, if_pos hfr, w32e (by first | decide | omega) (by first | decide | omega)]
      · refine find_inv H (c := c) (n := n) (q := q) (w := S.2 123 c + q) (day := S.2 72 2) hp.2 hnn (by first | decide | omega) k2 (by first | decide | omega) (by first | decide | omega) rfl (fun a q1 q2 q3 q4 q5 q6 => ?_) (fun k => ?_) (fun k => ?_) (fun f => ?_) (fun f => ?_) (fun f => ?_) (fun f => ?_) (fun f => ?_) (fun f => ?_) (fun f => ?_) (fun a q1 q2 => ?_) (fun k => ?_)
        · rw [wr_c q4, wr_c (by first | decide | omega), wr_c (by first | decide | omega), wr_c (by first | decide | omega), wr_c q5, wr_c q2, wr_c (by first | decide | omega), wr_c (by first | decide | omega), wr_c (by first | decide | omega), wr_c (by first | decide | omega)]
        · rw [wr_c (by decide), wr_c (by decide), wr_c (by decide), wr_c (by decide), wr_c (by decide), wr_f, wr_c (by decide), wr_c (by decide), wr_c (by decide), wr_c (by first | decide | omega)]
        · rw [wr_f, wr_c (by decide), wr_c (by decide), wr_c (by decide), wr_c (by decide), wr_c (by decide), wr_c (by decide), wr_c (by decide), wr_c (by decide), wr_c (by first | decide | omega)]
        · rw [wr_c (by decide), wr_c (by decide), wr_c (by decide), wr_c (by decide), wr_c (by decide), wr_c (by decide), wr_c (by decide), wr_c (by decide), wr_f, wr_c (by first | decide | omega)]
        · rw [wr_c (by decide), wr_c (by decide), wr_c (by decide), wr_c (by decide), wr_c (by decide), wr_c (by decide), wr_c (by decide), wr_f, wr_c (by decide), wr_c (by first | decide | omega)]
        · rw [wr_c (by decide), wr_c (by decide), wr_c (by decide), wr_c (by decide), wr_c (by decide), wr_c (by decide), wr_f, wr_c (by decide), wr_c (by decide), wr_c (by first | decide | omega)]
        · rw [wr_c (by decide), wr_c (by decide), wr_c (by decide), wr_f, wr_c (by decide), wr_c (by decide), wr_c (by decide), wr_c (by decide), wr_c (by decide), wr_c (by first | decide | omega)]
        · rw [wr_c (by decide), wr_c (by decide), wr_f, wr_c (by decide), wr_c (by decide), wr_c (by decide), wr_c (by decide), wr_c (by decide), wr_c (by decide), wr_c (by first | decide | omega)]
        · rw [wr_c (by decide), wr_f, wr_c (by decide), wr_c (by decide), wr_c (by decide), wr_c (by decide), wr_c (by decide), wr_c (by decide), wr_c (by decide), wr_c (by first | decide | omega)]
        · rw [wr_c (by decide), wr_c (by decide), wr_c (by decide), wr_c (by decide), wr_f, wr_c (by decide), wr_c (by decide), wr_c (by decide), wr_c (by decide), wr_c (by first | decide | omega)]
        · rw [wr_c (by first | decide | omega), wr_c (by first | decide | omega), wr_c (by first | decide | omega), wr_c (by first | decide | omega), wr_c (by first | decide | omega), wr_c (by first | decide | omega), wr_c (by first | decide | omega), wr_c (by first | decide | omega), wr_c (by first | decide | omega), wr_c q2]
        · rw [wr_c (by first | decide | omega), wr_c (by first | decide | omega), wr_c (by first | decide | omega), wr_c (by first | decide | omega), wr_c (by first | decide | omega), wr_c (by first | decide | omega), wr_c (by first | decide | omega), wr_c (by first | decide | omega), wr_c (by first | decide | omega), wr_f]
    · refine Ok.same (r := 0) H ?_ ?_
      · have hcat : ev (WK L xs) 198 80 [vr 43, vi (c : Int)] S = some ((clA S c : Int), S) := x_cl gk hp.2
        rw [q_60, x_cl gk hp.2, bR, Int.toNat_natCast, if_neg (by first | decide | omega), g14 ho, k12a ho, x_isPaid ho, bR]
        simp only [bi_0, lc_gt]
        rw [a9]
        by_cases h1 : S.2 115 c ≠ -1
        · rw [if_neg (fun z => z h1)]
          by_cases h2 : q < 1
          · rw [if_pos h2]
          · rw [if_neg h2, k12 ho, k12 ho, rdvD h5, rdvD h5, a5, a16, w64e (x := S.2 111 c - S.2 123 c) (by first | decide | omega) (by first | decide | omega)]
            by_cases h3 : S.2 111 c - S.2 123 c < q
            · rw [if_pos h3]
            · rw [if_neg h3, q_90, hcat, bR, Int.toNat_natCast, if_neg (by first | decide | omega), g14 ho, hf2, if_neg (by first | decide | omega), bR, if_pos (Or.inl rfl)]
        · rw [if_pos h1]
      · rw [q_308, m_isClaim gk.1]
        by_cases h0 : S.2 72 102 = 100
        · rw [if_pos h0]
        · rw [if_neg h0, bR]
          simp only [bi_0, Int.toNat_natCast, m_lies, bR, lc_gt]
          rw [if_neg (fun z => z hp), if_pos hq]
          by_cases h1 : S.2 115 c = -1
          · rw [if_pos h1]
          · rw [if_neg h1]
            by_cases h2 : 1 ≤ q ∧ q ≤ 1000000000
            · rw [if_neg (fun z => z h2), if_pos hq, if_pos hq, w64e (x := S.2 123 c + q) (by first | decide | omega) (by first | decide | omega), if_pos (by first | decide | omega)]
            · rw [if_pos h2]
  · refine Ok.same (r := 0) H ?_ ?_
    · rw [q_60, x_cl0 gk hp, bR, if_pos (by decide)]
    · rw [q_308, m_isClaim gk.1]
      by_cases h0 : S.2 72 102 = 100
      · rw [if_pos h0]
      · rw [if_neg h0, bR]
        simp only [bi_0]
        rw [if_pos hp]
end
end
section
-- 42.paid
/-! paid -/
theorem w64_sr_add (a b c : Int) : w64 (a + (b - w64 c)) = w64 (a + (b - c)) := by
  rw [← Int.add_sub_assoc, w64_sr, Int.add_sub_assoc]
/-- the claim c counts as paid in y under hd till day -/
noncomputable def cnt (h : Nat → Nat → Int) (y hd day : Int) (c : Nat) : Bool := decide (pin h c y = true ∧ h 115 c ≤ day ∧ uN h (h 109 c) hd = true)
noncomputable def wng (h : Nat → Nat → Int) (day : Int) (k c : Nat) : Int := sm (fun f => if h 147 f = c ∧ h 149 f ≤ day then h 148 f else 0) k
theorem wng_swap {h : Nat → Nat → Int} {day : Int} {P : Nat → Bool} {n : Nat} : ∀ k : Nat, (∀ f, f < k → 0 ≤ h 147 f ∧ h 147 f < n) → sm (fun c => if P c = true then h 111 c - wng h day k c else 0) n = sm (fun c => if P c = true then h 111 c else 0) n - sm (fun f => if h 149 f ≤ day ∧ P (h 147 f).toNat = true then h 148 f else 0) k := by
  intro k
  induction k with
  | zero =>
    intro _
    have e : sm (fun f => if h 149 f ≤ day ∧ P (h 147 f).toNat = true then h 148 f else 0) 0 = 0 := rfl
    rw [e, Int.sub_zero]
    refine sm_congr (fun c _ => ?_)
    have e2 : wng h day 0 c = 0 := rfl
    rw [e2, Int.sub_zero]
  | succ k ih =>
    intro hf
    have hi := ih (fun f hfk => hf f (by first | decide | omega))
    obtain ⟨z1, z2⟩ := hf k (by first | decide | omega)
    obtain ⟨c0, hc0⟩ := Int.eq_ofNat_of_zero_le z1
    have hw : ∀ c, wng h day (k + 1) c = wng h day k c + if h 147 k = c ∧ h 149 k ≤ day then h 148 k else 0 := fun c => rfl
    have h1 := sm_one (f := fun c => if P c = true then h 111 c - wng h day k c else 0) (g := fun c => if P c = true then h 111 c - wng h day (k + 1) c else 0) (c := c0) (n := n) (by first | decide | omega) (fun c _ hne => by
      show (if P c = true then h 111 c - wng h day (k + 1) c else 0) = _
      rw [hw c, if_neg (show ¬ (h 147 k = (c : Int) ∧ h 149 k ≤ day) by omega), Int.add_zero])
    rw [h1, hi, sm_su (fun f => if h 149 f ≤ day ∧ P (h 147 f).toNat = true then h 148 f else 0) k, hc0, Int.toNat_natCast]
    show _ - _ - (if P c0 = true then h 111 c0 - wng h day k c0 else 0) + (if P c0 = true then h 111 c0 - wng h day (k + 1) c0 else 0) = _
    rw [hw c0, hc0]
    by_cases q1 : P c0 = true
    · rw [if_pos q1, if_pos q1]
      by_cases q2 : h 149 k ≤ day
      · rw [if_pos ⟨rfl, q2⟩, if_pos ⟨q2, q1⟩]
        omega
      · rw [if_neg (fun z => q2 z.2), if_neg (fun z => q2 z.1)]
        omega
    · rw [if_neg q1, if_neg q1, if_neg (fun z => q1 z.2)]
      omega
section
variable {L : Nat} {xs : Nat → Int} {d : Nat} {S S' : AH} {o : Nat}
theorem m_counts (H : Inv S) {c : Nat} (hc : (c : Int) < S.2 72 52) {y hd day : Int} (hh : 0 ≤ hd) : ev (WK L xs) (d + 2) 310 [vr 72, vi (c : Int), vi y, vi hd, vi day] S = some (bi (cnt S.2 y hd day c = true), S) := by
  have hn := H.gk.n
  have hr := (H.gk.1.2.2.2.1 c hc).2.1
  have hq : (0 : Int) ≤ (c : Int) ∧ (c : Int) < 300 := by omega
  rw [q_310, m_paidIn (by first | decide | omega), bR, if_pos hq, if_pos hq, Int.toNat_natCast, m_isUnder H.gp.1 _ _ hr.1 hr.2 hh, bR]
  simp only [bi_0]
  unfold cnt
  by_cases h1 : pin S.2 c y = true
  · rw [if_neg (fun z => z h1)]
    by_cases h2 : day < S.2 115 c
    · rw [if_pos h2, bi_F (by simp; intro _; omega)]
    · rw [if_neg h2, ite_bin]
      congr 2
      apply bi_iff
      simp [h1]
      omega
  · rw [if_pos h1, bi_F (by simp [h1])]
theorem x_wrong (gk : GK S) (c : Nat) (day : Int) : ev (WK L xs) (d + 1) 91 [vr 43, vi (c : Int), vi day] S = some (w64 (wng S.2 day (S.2 72 102).toNat c), S) := by
  have hf := gk.1.2.2.1
  have key : ∀ (m f : Nat), f + m = (S.2 72 102).toNat → LQ (WK L xs) (ev (WK L xs) d) 91 5 [some (vr 43), some (vi (c : Int)), some (vi day), some (vl (w64 (wng S.2 day f c))), none, some (vi (f : Int))] [] S = some (w64 (wng S.2 day (S.2 72 102).toNat c), S) := by
    intro m
    induction m with
    | zero =>
      intro f hfm
      rw [q_91_5, gk.2.2.2.1, if_neg (by first | decide | omega), show f = (S.2 72 102).toNat by omega]
    | succ m ih =>
      intro f hfm
      obtain ⟨g1, g2, g3⟩ := gk.2.2.2.2.2.2.2.2.2.2 f (by first | decide | omega)
      have e1 : (f : Int) + 1 = ((f + 1 : Nat) : Int) := by omega
      have hi := ih (f + 1) (by first | decide | omega)
      have hw : wng S.2 day (f + 1) c = wng S.2 day f c + if S.2 147 f = c ∧ S.2 149 f ≤ day then S.2 148 f else 0 := rfl
      have hq : (0 : Int) ≤ (f : Int) ∧ (f : Int) < 100 := by omega
      rw [q_91_5, gk.2.2.2.1, if_pos (by first | decide | omega), if_pos hq, if_pos hq, if_pos hq, Int.toNat_natCast, g1, g2, g3, w32e (by first | decide | omega) (by first | decide | omega), e1, w64_al]
      by_cases h1 : S.2 147 f = c
      · rw [if_pos h1]
        by_cases h2 : day < S.2 149 f
        · rw [if_neg (by first | decide | omega), Int.add_zero] at hw
          rw [if_pos h2, ← hw]
          exact hi
        · rw [if_pos ⟨h1, by omega⟩] at hw
          rw [if_neg h2, ← hw]
          exact hi
      · rw [if_neg (fun z => h1 z.1), Int.add_zero] at hw
        rw [if_neg h1, ← hw]
        exact hi
  rw [q_91]
  exact key (S.2 72 102).toNat 0 (by first | decide | omega)
theorem o_paid (H : Inv S) (p q r : Int) : Ok L xs 61 309 [vi p, vi q, vi r] S := by
  have gk := H.gk
  have gp := H.gp
  obtain ⟨hn, hn3⟩ := nC gk
  have hfr := gk.1.2.2.1
  by_cases hc : (0 ≤ p ∧ p < 10) ∧ (0 ≤ q ∧ q < S.2 72 4) ∧ (0 ≤ r ∧ r < 3600)
  · obtain ⟨h1, h2, h3⟩ := hc
    have hsw := wng_swap (h := S.2) (day := r) (P := cnt S.2 p q r) (n := nClaims S.2) (S.2 72 102).toNat (fun f hf => by
      have := (gk.1.2.2.2.2.2 f (by first | decide | omega)).1
      omega)
    have kx : ∀ (m c : Nat), c + m = nClaims S.2 → LQ (WK L xs) (ev (WK L xs) 199) 61 35 [some (vr 15), some (vi p), some (vi q), some (vi r), some (vl (w64 (sm (fun c => if cnt S.2 p q r c = true then S.2 111 c - wng S.2 r (S.2 72 102).toNat c else 0) c))), none, some (vi (c : Int)), none] [] S = some (w64 (sm (fun c => if cnt S.2 p q r c = true then S.2 111 c - wng S.2 r (S.2 72 102).toNat c else 0) (nClaims S.2)), S) := by
      intro m
      induction m with
      | zero =>
        intro c hcm
        rw [q_61_35, gk.2.1, hn, if_neg (by first | decide | omega), show c = nClaims S.2 by omega]
      | succ m ih =>
        intro c hcm
        have hcl : (c : Int) < S.2 72 52 := by omega
        have ho := gk.ob hcl
        have h5 := ho.1
        obtain ⟨a1, a2, a3, a4, a5, a6, a7, a8, a9, -⟩ := gk.2.2.2.2.1 c hcl
        have hr := (gk.1.2.2.2.1 c hcl).2.1
        have e1 : (c : Int) + 1 = ((c + 1 : Nat) : Int) := by omega
        have hi := ih (c + 1) (by first | decide | omega)
        have hs := sm_su (fun c => if cnt S.2 p q r c = true then S.2 111 c - wng S.2 r (S.2 72 102).toNat c else 0) c
        rw [q_61_35, gk.2.1, if_pos hcl, x_cl gk hcl, bR, Int.toNat_natCast, if_neg (by first | decide | omega), g14 ho, k12a ho, x_pin gk hcl, bR, k12 ho, rdvD h5, a9, k12 ho, rdvD h5, a3, x_isUnder gp, bR, k12 ho, x_wrong gk, bR, rdvD h5, a5, w64_ar, w64_al, w64_sr_add, w32e (by first | decide | omega) (by first | decide | omega), e1]
        simp only [bi_0]
        by_cases q1 : cnt S.2 p q r c = true
        · have q2 := q1
          unfold cnt at q2
          simp only [decide_eq_true_eq] at q2
          rw [if_pos q1] at hs
          rw [if_neg (fun z => z q2.1), if_neg (by first | decide | omega), if_neg (fun z => z ⟨hr, h2, q2.2.2⟩), ← hs]
          exact hi
        · rw [if_neg q1, Int.add_zero] at hs
          rw [hs] at hi
          rw [hi]
          have q2 := q1
          unfold cnt at q2
          simp only [decide_eq_true_eq] at q2
          by_cases z1 : pin S.2 c p = true
          · rw [if_neg (fun z => z z1)]
            by_cases z2 : r < S.2 115 c
            · rw [if_pos z2]
            · rw [if_neg z2, if_pos (fun z => q2 ⟨z1, by omega, z.2.2⟩)]
          · rw [if_pos z1]
    have km2 : ∀ (m f : Nat) (A : Int), f + m = (S.2 72 102).toNat → LQ (WK L xs) (ev (WK L xs) 199) 309 89 [some (vr 72), some (vi p), some (vi q), some (vi r), some (vl (w64 (A - sm (fun f => if S.2 149 f ≤ r ∧ cnt S.2 p q r (S.2 147 f).toNat = true then S.2 148 f else 0) f))), none, some (vi (f : Int))] [] S = some (w64 (A - sm (fun f => if S.2 149 f ≤ r ∧ cnt S.2 p q r (S.2 147 f).toNat = true then S.2 148 f else 0) (S.2 72 102).toNat), S) := by
      intro m
      induction m with
      | zero =>
        intro f A hfm
        rw [q_309_89, if_neg (by first | decide | omega), show f = (S.2 72 102).toNat by omega]
      | succ m ih =>
        intro f A hfm
        have e1 : (f : Int) + 1 = ((f + 1 : Nat) : Int) := by omega
        have hi := ih (f + 1) A (by first | decide | omega)
        have hs := sm_su (fun f => if S.2 149 f ≤ r ∧ cnt S.2 p q r (S.2 147 f).toNat = true then S.2 148 f else 0) f
        have hq : (0 : Int) ≤ (f : Int) ∧ (f : Int) < 100 := by omega
        obtain ⟨⟨u1, u2, u3⟩, -⟩ := gk.1.2.2.2.2.2 f (by first | decide | omega)
        obtain ⟨c0, hc0⟩ := Int.eq_ofNat_of_zero_le u1
        have hcn := m_counts (L := L) (xs := xs) (d := 197) H (c := c0) (by first | decide | omega) (y := p) (hd := q) (day := r) h2.1
        rw [q_309_89, if_pos (by first | decide | omega), if_pos hq, if_pos hq, Int.toNat_natCast, hc0, hcn, bR, if_pos hq, w32e (by first | decide | omega) (by first | decide | omega), e1, w64_sl, w64_sl]
        simp only [bi_0]
        rw [hc0, Int.toNat_natCast] at hs
        rw [hs] at hi
        by_cases z1 : r < S.2 149 f
        · rw [if_neg (fun z => by omega), Int.add_zero] at hi
          rw [if_pos z1, Int.sub_zero]
          exact hi
        · rw [if_neg z1]
          by_cases z2 : cnt S.2 p q r c0 = true
          · rw [if_pos ⟨by omega, z2⟩, ← Int.sub_sub] at hi
            rw [if_neg (fun z => z z2)]
            exact hi
          · rw [if_neg (fun z => z2 z.2), Int.add_zero] at hi
            rw [if_pos z2, Int.sub_zero]
            exact hi
    have km : ∀ (m c : Nat), c + m = nClaims S.2 → LQ (WK L xs) (ev (WK L xs) 199) 309 42 [some (vr 72), some (vi p), some (vi q), some (vi r), some (vl (w64 (sm (fun c => if cnt S.2 p q r c = true then S.2 111 c else 0) c))), none, some (vi (c : Int))] [] S = LQ (WK L xs) (ev (WK L xs) 199) 309 89 [some (vr 72), some (vi p), some (vi q), some (vi r), some (vl (w64 (sm (fun c => if cnt S.2 p q r c = true then S.2 111 c else 0) (nClaims S.2)))), none, some (vi 0)] [] S := by
      intro m
      induction m with
      | zero =>
        intro c hcm
        rw [q_309_42, hn, if_neg (by first | decide | omega), show c = nClaims S.2 by omega]
      | succ m ih =>
        intro c hcm
        have hcl : (c : Int) < S.2 72 52 := by omega
        have e1 : (c : Int) + 1 = ((c + 1 : Nat) : Int) := by omega
        have hi := ih (c + 1) (by first | decide | omega)
        have hs := sm_su (fun c => if cnt S.2 p q r c = true then S.2 111 c else 0) c
        have hq : (0 : Int) ≤ (c : Int) ∧ (c : Int) < 300 := by omega
        rw [hs] at hi
        rw [q_309_42, if_pos hcl, m_counts H hcl h2.1, bR, if_pos hq, Int.toNat_natCast, w32e (by first | decide | omega) (by first | decide | omega), e1, w64_al, w64_al]
        simp only [bi_0]
        by_cases z2 : cnt S.2 p q r c = true
        · rw [if_pos z2] at hi
          rw [if_neg (fun z => z z2)]
          exact hi
        · rw [if_neg z2] at hi
          rw [if_pos z2]
          exact hi
    refine Ok.same (r := w64 (sm (fun c => if cnt S.2 p q r c = true then S.2 111 c - wng S.2 r (S.2 72 102).toNat c else 0) (nClaims S.2))) H ?_ ?_
    · rw [q_61]
      simp only [x_isYear, x_isHead, x_isDay, bR, bi_0, gp.2.1]
      rw [if_neg (fun z => z h1), if_neg (fun z => z h2), if_neg (fun z => z h3)]
      exact kx (nClaims S.2) 0 (by first | decide | omega)
    · rw [q_309]
      simp only [m_lies, m_isHead gp.1, bR, bi_0]
      rw [if_neg (by first | decide | omega), if_neg (fun z => z h2), if_neg (by first | decide | omega), hsw]
      have k0 := km (nClaims S.2) 0 (by first | decide | omega)
      have k2 := km2 (S.2 72 102).toNat 0 (sm (fun c => if cnt S.2 p q r c = true then S.2 111 c else 0) (nClaims S.2)) (by first | decide | omega)
      have hz : sm (fun f => if S.2 149 f ≤ r ∧ cnt S.2 p q r (S.2 147 f).toNat = true then S.2 148 f else 0) 0 = 0 := rfl
      rw [hz, Int.sub_zero] at k2
      exact k0.trans k2
  · refine Ok.same (r := -1) H ?_ ?_
    · rw [q_61]
      simp only [x_isYear, x_isHead, x_isDay, bR, bi_0, gp.2.1]
      by_cases h1 : 0 ≤ p ∧ p < 10
      · rw [if_neg (fun z => z h1)]
        by_cases h2 : 0 ≤ q ∧ q < S.2 72 4
        · rw [if_neg (fun z => z h2), if_pos (fun z => hc ⟨h1, h2, z⟩)]
        · rw [if_pos h2]
      · rw [if_pos h1]
    · rw [q_309]
      simp only [m_lies, m_isHead gp.1, bR, bi_0]
      by_cases h1 : 0 ≤ p ∧ p ≤ 9
      · rw [if_neg (fun z => z h1)]
        by_cases h2 : 0 ≤ q ∧ q < S.2 72 4
        · rw [if_neg (fun z => z h2), if_pos (fun z => hc ⟨by omega, h2, by omega⟩)]
        · rw [if_pos h2]
      · rw [if_pos h1]
end
end
section
-- 43.charge
/-! what falls on the hands; answer -/
noncomputable def rmn (set : Nat) (r : Int) : Nat → Int
  | 0 => r
  | i + 1 => if set.testBit i then w32 (rmn set r i + -1) else rmn set r i
/-- what of the sum falls on the hand j -/
noncomputable def chv (set : Nat) (sum : Int) (j : Nat) : Int := w32 (idiv sum (pcn set) + if 0 < rmn set (Int.tmod sum (pcn set)) j then 1 else 0)
theorem pcn_pos {x : Nat} (h : x < 65536) (h0 : x ≠ 0) : ¬ (pcn x : Int) = 0 := by
  have := (low_at h h0).1
  omega
section
variable {L : Nat} {xs : Nat → Int} {d : Nat} {S S' : AH} {o : Nat}
theorem set_or {s w : Nat} (hs : s < 65536) (hw : w < 16) : ior (s : Int) (ishl 1 (w : Int)) = ((s ||| 2 ^ w : Nat) : Int) ∧ s ||| 2 ^ w < 65536 ∧ s ||| 2 ^ w ≠ 0 := by
  refine ⟨?_, Nat.or_lt_two_pow (n := 16) (by first | decide | omega) (Nat.pow_lt_pow_right (by decide) (by first | decide | omega)), fun z => ?_⟩
  · rw [ishl_n w (by first | decide | omega), ior_n s (2 ^ w) (by first | decide | omega) (Nat.lt_of_lt_of_le (Nat.pow_lt_pow_right (by decide) hw) (by decide))]
  · have h1 : (s ||| 2 ^ w).testBit w = true := by
      rw [Nat.testBit_or, Nat.testBit_two_pow_self, Bool.or_true]
    rw [z, Nat.zero_testBit] at h1
    cases h1
theorem bit16 {x i : Nat} (hx : x < 65536) (hi : i < 16) : iand (ishr (x : Int) (i : Int)) 1 = if x.testBit i then 1 else 0 := by
  have := ibit (x : Int) (i : Int) (by first | decide | omega) (by first | decide | omega) (by first | decide | omega) (by first | decide | omega)
  rw [Int.toNat_natCast, Int.toNat_natCast] at this
  exact this
theorem x_chl {U : AH} (hO : isO U o 12 15) {n set : Nat} (hset : set < 65536) (hn : n ≤ 16) (hk : ¬ (pcn set : Int) = 0) (hh : U.2 17 5 = n) : ∀ (m i : Nat) (T : AH), i + m = n → T.1 = U.1 → (∀ a, a ≠ 21 → T.2 a = U.2 a) → (∀ j, T.2 21 j = if j < i ∧ set.testBit j = true then w64 (U.2 21 j + chv set (U.2 o 3) j) else U.2 21 j) →
    ∃ T', LQ (WK L xs) (ev (WK L xs) d) 132 46 [some (vr 17), some (vr o), some (vi (set : Int)), some (vi (pcn set : Int)), some (vi (rmn set (Int.tmod (U.2 o 3) (pcn set)) i)), some (vi (i : Int))] [] T = some (U.2 o 3, T') ∧ T'.1 = U.1 ∧ (∀ a, a ≠ 21 → T'.2 a = U.2 a) ∧ ∀ j, T'.2 21 j = if j < n ∧ set.testBit j = true then w64 (U.2 21 j + chv set (U.2 o 3) j) else U.2 21 j := by
  have h5 := hO.1
  intro m
  induction m with
  | zero =>
    intro i T hi h1 h2 h3
    have hOT : isO T o 12 15 := by
      unfold isO
      rw [h1]
      exact hO
    have e : i = n := by omega
    subst e
    rw [q_132_46, h2 17 (by decide), hh, if_neg (by first | decide | omega), k12 hOT, rdvD h5, h2 o (by first | decide | omega)]
    exact ⟨T, rfl, h1, h2, h3⟩
  | succ m ih =>
    intro i T hi h1 h2 h3
    have hOT : isO T o 12 15 := by
      unfold isO
      rw [h1]
      exact hO
    have e1 : (i : Int) + 1 = ((i + 1 : Nat) : Int) := by omega
    have hq : (0 : Int) ≤ (i : Int) ∧ (i : Int) < 16 := by omega
    have hru : rmn set (Int.tmod (U.2 o 3) (pcn set)) (i + 1) = if set.testBit i then w32 (rmn set (Int.tmod (U.2 o 3) (pcn set)) i + -1) else rmn set (Int.tmod (U.2 o 3) (pcn set)) i := rfl
    rw [q_132_46, h2 17 (by decide), hh, if_pos (by first | decide | omega), bit16 hset (by first | decide | omega), w32e (x := (i : Int) + 1) (by first | decide | omega) (by first | decide | omega), e1]
    cases hb : set.testBit i with
    | false =>
      rw [hb, if_neg (by decide)] at hru
      rw [if_pos (by rfl), ← hru]
      refine ih (i + 1) T (by first | decide | omega) h1 h2 (fun j => ?_)
      rw [h3 j]
      by_cases hj : j = i
      · subst hj
        rw [hb, if_neg (by simp), if_neg (by simp)]
      · by_cases q : j < i ∧ set.testBit j = true
        · rw [if_pos q, if_pos ⟨by omega, q.2⟩]
        · rw [if_neg q, if_neg (fun z => q ⟨by omega, z.2⟩)]
    | true =>
      rw [hb, if_pos rfl] at hru
      have hti : T.2 21 i = U.2 21 i := by rw [h3 i, if_neg (by first | decide | omega)]
      have hnx : ∀ v : Int, v = chv set (U.2 o 3) i → ∃ T', LQ (WK L xs) (ev (WK L xs) d) 132 46 [some (vr 17), some (vr o), some (vi (set : Int)), some (vi (pcn set : Int)), some (vi (rmn set (Int.tmod (U.2 o 3) (pcn set)) (i + 1))), some (vi ((i + 1 : Nat) : Int))] [] (wr T 21 i (w64 (U.2 21 i + v))) = some (U.2 o 3, T') ∧ T'.1 = U.1 ∧ (∀ a, a ≠ 21 → T'.2 a = U.2 a) ∧ ∀ j, T'.2 21 j = if j < n ∧ set.testBit j = true then w64 (U.2 21 j + chv set (U.2 o 3) j) else U.2 21 j := by
        intro v hv
        refine ih (i + 1) _ (by first | decide | omega) h1 (fun a ha => by rw [wr_c ha]; exact h2 a ha) (fun j => ?_)
        rw [wr_f, h3 j]
        by_cases hj : j = i
        · subst hj
          rw [if_pos rfl, if_pos ⟨by omega, hb⟩, hv]
        · rw [if_neg hj]
          by_cases q : j < i ∧ set.testBit j = true
          · rw [if_pos q, if_pos ⟨by omega, q.2⟩]
          · rw [if_neg q, if_neg (fun z => q ⟨by omega, z.2⟩)]
      rw [if_neg (by decide), if_pos hq, k12 hOT, if_neg hk, if_pos hq, if_pos hq, rdvD h5, h2 o (by first | decide | omega), Int.toNat_natCast, hti, ← hru]
      by_cases hr : 0 < rmn set (Int.tmod (U.2 o 3) (pcn set)) i
      · rw [if_pos hr]
        refine hnx _ ?_
        unfold chv
        rw [if_pos hr]
      · rw [if_neg hr]
        refine hnx _ ?_
        unfold chv
        rw [if_neg hr]
theorem x_charge {T : AH} (hO : isO T o 12 15) {n s w : Nat} (h6 : T.2 o 6 = s) (hs : s < 65536) (h0 : T.2 o 0 = w) (hw : w < 16) (hh : T.2 17 5 = n) (hn : n ≤ 16) : ∃ T', ev (WK L xs) (d + 2) 132 [vr 17, vr o] T = some (if T.2 o 11 = 0 then T.2 o 3 else 0, T') ∧ T'.1 = T.1 ∧ (∀ a, a ≠ 21 → a ≠ o → T'.2 a = T.2 a) ∧ (∀ k, T'.2 o k = if k = 11 ∧ T.2 o 11 = 0 then 1 else T.2 o k) ∧ ∀ j, T'.2 21 j = if T.2 o 11 = 0 ∧ j < n ∧ (s ||| 2 ^ w).testBit j = true then w64 (T.2 21 j + chv (s ||| 2 ^ w) (T.2 o 3) j) else T.2 21 j := by
  have h5 := hO.1
  obtain ⟨e1, e2, e3⟩ := set_or hs hw
  have hk := pcn_pos e2 e3
  rw [q_132, k12 hO, k12 hO, rdvD h5, rdvD h5, h6, h0, e1, j_bitCount _ e2, bR, k12 hO, rdvD h5]
  by_cases hc : T.2 o 11 = 0
  · rw [if_pos hc, if_neg hk, if_neg hk, k12w hO, k12 (show isO (wr T o 11 1) o 12 15 from hO), rdvD h5]
    have hv : (wr T o 11 1).2 o 3 = T.2 o 3 := by rw [wr_f, if_neg (by decide)]
    obtain ⟨T', t1, t2, t3, t4⟩ := x_chl (L := L) (xs := xs) (d := d + 1) (U := wr T o 11 1) (o := o) hO (n := n) (set := s ||| 2 ^ w) e2 hn hk (by rw [wr_c (by first | decide | omega)]; exact hh) n 0 (wr T o 11 1) (by first | decide | omega) rfl (fun _ _ => rfl) (fun j => by rw [if_neg (by first | decide | omega)])
    refine ⟨T', ?_, t2, fun a q1 q2 => by rw [t3 a q1, wr_c q2], fun k => ?_, fun j => ?_⟩
    · rw [if_pos hc, ← hv]
      exact t1
    · rw [t3 o (by first | decide | omega), wr_f]
      by_cases q : k = 11
      · rw [if_pos q, if_pos ⟨q, hc⟩]
      · rw [if_neg q, if_neg (fun z => q z.1)]
    · rw [t4 j, hv, wr_c (by first | decide | omega)]
      by_cases q : j < n ∧ (s ||| 2 ^ w).testBit j = true
      · rw [if_pos q, if_pos ⟨hc, q⟩]
      · rw [if_neg q, if_neg (fun z => q z.2)]
  · rw [if_neg hc]
    refine ⟨T, ?_, rfl, fun _ _ _ => rfl, fun k => ?_, fun j => ?_⟩
    · rw [if_neg hc]
    · rw [if_neg (fun z => hc z.2)]
    · rw [if_neg (fun z => hc z.1)]
theorem m_chl {U : AH} {c : Nat} (hc : c < 300) {n set : Nat} (hset : set < 65536) (hn : n ≤ 16) (hk : ¬ (pcn set : Int) = 0) (hh : U.2 72 5 = n) : ∀ (m i : Nat) (T : AH), i + m = n → T.1 = U.1 → (∀ a, a ≠ 77 → T.2 a = U.2 a) → (∀ j, T.2 77 j = if j < i ∧ set.testBit j = true then w64 (U.2 77 j + chv set (U.2 111 c) j) else U.2 77 j) →
    ∃ T', LQ (WK L xs) (ev (WK L xs) d) 305 52 [some (vr 72), some (vi (c : Int)), some (vi (set : Int)), some (vi (pcn set : Int)), some (vi (rmn set (Int.tmod (U.2 111 c) (pcn set)) i)), some (vi (i : Int))] [] T = some (U.2 111 c, T') ∧ T'.1 = U.1 ∧ (∀ a, a ≠ 77 → T'.2 a = U.2 a) ∧ ∀ j, T'.2 77 j = if j < n ∧ set.testBit j = true then w64 (U.2 77 j + chv set (U.2 111 c) j) else U.2 77 j := by
  have hqc : (0 : Int) ≤ (c : Int) ∧ (c : Int) < 300 := by omega
  intro m
  induction m with
  | zero =>
    intro i T hi h1 h2 h3
    have e : i = n := by omega
    subst e
    rw [q_305_52, h2 72 (by decide), hh, if_neg (by first | decide | omega), if_pos hqc, h2 111 (by decide), Int.toNat_natCast]
    exact ⟨T, rfl, h1, h2, h3⟩
  | succ m ih =>
    intro i T hi h1 h2 h3
    have e1 : (i : Int) + 1 = ((i + 1 : Nat) : Int) := by omega
    have hq : (0 : Int) ≤ (i : Int) ∧ (i : Int) < 16 := by omega
    have hru : rmn set (Int.tmod (U.2 111 c) (pcn set)) (i + 1) = if set.testBit i then w32 (rmn set (Int.tmod (U.2 111 c) (pcn set)) i + -1) else rmn set (Int.tmod (U.2 111 c) (pcn set)) i := rfl
    rw [q_305_52, h2 72 (by decide), hh, if_pos (by first | decide | omega), bit16 hset (by first | decide | omega), w32e (x := (i : Int) + 1) (by first | decide | omega) (by first | decide | omega), e1]
    cases hb : set.testBit i with
    | false =>
      rw [hb, if_neg (by decide)] at hru
      rw [if_pos (by rfl), ← hru]
      refine ih (i + 1) T (by first | decide | omega) h1 h2 (fun j => ?_)
      rw [h3 j]
      by_cases hj : j = i
      · subst hj
        rw [hb, if_neg (by simp), if_neg (by simp)]
      · by_cases q : j < i ∧ set.testBit j = true
        · rw [if_pos q, if_pos ⟨by omega, q.2⟩]
        · rw [if_neg q, if_neg (fun z => q ⟨by omega, z.2⟩)]
    | true =>
      rw [hb, if_pos rfl] at hru
      have hti : T.2 77 i = U.2 77 i := by rw [h3 i, if_neg (by first | decide | omega)]
      have hnx : ∀ v : Int, v = chv set (U.2 111 c) i → ∃ T', LQ (WK L xs) (ev (WK L xs) d) 305 52 [some (vr 72), some (vi (c : Int)), some (vi (set : Int)), some (vi (pcn set : Int)), some (vi (rmn set (Int.tmod (U.2 111 c) (pcn set)) (i + 1))), some (vi ((i + 1 : Nat) : Int))] [] (wr T 77 i (w64 (U.2 77 i + v))) = some (U.2 111 c, T') ∧ T'.1 = U.1 ∧ (∀ a, a ≠ 77 → T'.2 a = U.2 a) ∧ ∀ j, T'.2 77 j = if j < n ∧ set.testBit j = true then w64 (U.2 77 j + chv set (U.2 111 c) j) else U.2 77 j := by
        intro v hv
        refine ih (i + 1) _ (by first | decide | omega) h1 (fun a ha => by rw [wr_c ha]; exact h2 a ha) (fun j => ?_)
        rw [wr_f, h3 j]
        by_cases hj : j = i
        · subst hj
          rw [if_pos rfl, if_pos ⟨by omega, hb⟩, hv]
        · rw [if_neg hj]
          by_cases q : j < i ∧ set.testBit j = true
          · rw [if_pos q, if_pos ⟨by omega, q.2⟩]
          · rw [if_neg q, if_neg (fun z => q ⟨by omega, z.2⟩)]
      rw [if_neg (by decide), if_pos hq, if_pos hqc, if_neg hk, if_pos hq, if_pos hq, h2 111 (by decide), Int.toNat_natCast, Int.toNat_natCast, hti, ← hru]
      by_cases hr : 0 < rmn set (Int.tmod (U.2 111 c) (pcn set)) i
      · rw [if_pos hr]
        refine hnx _ ?_
        unfold chv
        rw [if_pos hr]
      · rw [if_neg hr]
        refine hnx _ ?_
        unfold chv
        rw [if_neg hr]
theorem m_charge {T : AH} {c : Nat} (hc : c < 300) {n s w : Nat} (h6 : T.2 114 c = s) (hs : s < 65536) (h0 : T.2 108 c = w) (hw : w < 16) (hh : T.2 72 5 = n) (hn : n ≤ 16) : ∃ T', ev (WK L xs) (d + 2) 305 [vr 72, vi (c : Int)] T = some (if T.2 119 c = 0 then T.2 111 c else 0, T') ∧ T'.1 = T.1 ∧ (∀ a, a ≠ 77 → a ≠ 119 → T'.2 a = T.2 a) ∧ (∀ k, T'.2 119 k = if k = c ∧ T.2 119 c = 0 then 1 else T.2 119 k) ∧ ∀ j, T'.2 77 j = if T.2 119 c = 0 ∧ j < n ∧ (s ||| 2 ^ w).testBit j = true then w64 (T.2 77 j + chv (s ||| 2 ^ w) (T.2 111 c) j) else T.2 77 j := by
  obtain ⟨e1, e2, e3⟩ := set_or hs hw
  have hk := pcn_pos e2 e3
  have hqc : (0 : Int) ≤ (c : Int) ∧ (c : Int) < 300 := by omega
  rw [q_305, if_pos hqc, if_pos hqc, if_pos hqc, if_pos hqc, Int.toNat_natCast, h6, h0, e1, m_sizeOf _ e2, bR, if_pos hqc, if_neg hk]
  by_cases hcc : T.2 119 c = 0
  · rw [if_pos hcc]
    have hv : (wr T 119 c 1).2 111 c = T.2 111 c := by rw [wr_c (by decide)]
    obtain ⟨T', t1, t2, t3, t4⟩ := m_chl (L := L) (xs := xs) (d := d + 1) (U := wr T 119 c 1) (c := c) hc (n := n) (set := s ||| 2 ^ w) e2 hn hk (by rw [wr_c (by decide)]; exact hh) n 0 (wr T 119 c 1) (by first | decide | omega) rfl (fun _ _ => rfl) (fun j => by rw [if_neg (by first | decide | omega)])
    refine ⟨T', ?_, t2, fun a q1 q2 => by rw [t3 a q1, wr_c q2], fun k => ?_, fun j => ?_⟩
    · rw [if_pos hcc, ← hv]
      exact t1
    · rw [t3 119 (by decide), wr_f]
      by_cases q : k = c
      · rw [if_pos q, if_pos ⟨q, hcc⟩]
      · rw [if_neg q, if_neg (fun z => q z.1)]
    · rw [t4 j, hv, wr_c (by decide)]
      by_cases q : j < n ∧ (s ||| 2 ^ w).testBit j = true
      · rw [if_pos q, if_pos ⟨hcc, q⟩]
      · rw [if_neg q, if_neg (fun z => q z.2)]
  · rw [if_neg hcc]
    refine ⟨T, ?_, rfl, fun _ _ _ => rfl, fun k => ?_, fun j => ?_⟩
    · rw [if_neg hcc]
    · rw [if_neg (fun z => hcc z.2)]
    · rw [if_neg (fun z => hcc z.1)]
/-- charges may change alike -/
theorem Inv.chg (H : Inv S) (hS : S'.1 = S.1) (hc : ∀ a, a ≠ 21 → a ≠ 77 → S'.2 a = S.2 a) (he : ∀ i, i < 16 → S'.2 21 i = S'.2 77 i) : Inv S' := by
  have C : ∀ a, (a < 21 ∨ (21 < a ∧ a < 77) ∨ 77 < a) → S'.2 a = S.2 a := fun a q => hc a (by first | decide | omega) (by first | decide | omega)
  have c72 := C 72 (by first | decide | omega)
  have c15 := C 15 (by first | decide | omega)
  refine H.upd ⟨by rw [hS]; exact Nat.le_refl _, fun a q1 q2 => ⟨by rw [hS], C a (by first | decide | omega)⟩⟩ (fun a q => C a (by unfold lvk at q; omega)) (fun k _ => by rw [c72]) (by unfold HM; rw [c72]; omega) (H.gt.fr (by rw [c15]) (by rw [c72])) (H.gc.fr (by rw [c15]) (by rw [c72])) (H.gx.fr (by rw [c15]) (by rw [c72])) (H.gb.fr (by rw [c15]) (by rw [c72]) (C _ (by first | decide | omega)) (C _ (by first | decide | omega))) ?_ (H.gu.fr (by rw [c72]) (by rw [C 50 (by first | decide | omega)]) (by rw [C 50 (by first | decide | omega)]) (fun a ha => C a (by first | decide | omega))) (H.gw.fr (by rw [c72]) (by rw [c72]) (by rw [C 54 (by first | decide | omega)]) (by rw [C 54 (by first | decide | omega)]) (fun a ha => C a (by first | decide | omega))) (H.gn.fr (by rw [c72]) (by rw [c72]) (by rw [c72]) (by rw [C 63 (by first | decide | omega)]) (by rw [C 63 (by first | decide | omega)]) (by rw [C 63 (by first | decide | omega)]) (fun a ha => C a (by first | decide | omega)))
  obtain ⟨g1, g2, g3, g4, g5, g6⟩ := H.gp
  unfold GP RP
  rw [c72, C 17 (by first | decide | omega), C 18 (by first | decide | omega), C 19 (by first | decide | omega), C 20 (by first | decide | omega), C 74 (by first | decide | omega), C 75 (by first | decide | omega), C 76 (by first | decide | omega)]
  exact ⟨g1, g2, g3, g4, g5, he⟩
end
end
section
-- 44.answer
/-! answer -/
section
variable {L : Nat} {xs : Nat → Int} {d : Nat} {S S' : AH} {o : Nat}
theorem k12x {T : AH} (hT : T.1 = S.1) (h : isO S o 12 15) : isO T o 12 15 := by
  unfold isO
  rw [hT]
  exact h
theorem o_answer (H : Inv S) (p q : Int) : Ok L xs 56 304 [vi p, vi q] S := by
  have gk := H.gk
  have gp := H.gp
  have hn := gk.n
  obtain ⟨-, ⟨hh1, hh2⟩, -, -⟩ := gp.1
  have ehn : S.2 17 5 = S.2 72 5 := gp.2.2.1
  by_cases hp : 0 ≤ p ∧ p < S.2 72 52
  · obtain ⟨c, hc⟩ := Int.eq_ofNat_of_zero_le hp.1
    subst hc
    have ho := gk.ob hp.2
    have h5 := ho.1
    obtain ⟨a1, a2, a3, a4, a5, a6, a7, a8, a9, a10, a11, a12, a13, a14, a15, a16⟩ := gk.2.2.2.2.1 c hp.2
    obtain ⟨r1, r2, r3, r4, r5, r6, r7, r8, r9, r10, r11, r12, r13⟩ := gk.1.2.2.2.1 c hp.2
    have hq : (0 : Int) ≤ (c : Int) ∧ (c : Int) < 300 := by omega
    have hc3 : c < 300 := by omega
    by_cases hk : S.2 118 c = 1
    · by_cases hz : q = 0
      · subst hz
        obtain ⟨n, hnn⟩ := Int.eq_ofNat_of_zero_le hh1
        obtain ⟨s, hs⟩ := Int.eq_ofNat_of_zero_le r6.1
        obtain ⟨w, hw⟩ := Int.eq_ofNat_of_zero_le r1.1
        have t5 : ∀ k, (wr S (clA S c) 10 3).2 (clA S c) k = if k = 10 then 3 else S.2 (clA S c) k := fun k => wr_f
        have tc : ∀ a, a ≠ clA S c → (wr S (clA S c) 10 3).2 a = S.2 a := fun a ha => wr_c ha
        obtain ⟨T1, x1, x2, x3, x4, x5⟩ := x_charge (L := L) (xs := xs) (d := 197) (T := wr S (clA S c) 10 3) (o := clA S c) ho (n := n) (s := s) (w := w) (by rw [t5, if_neg (by decide), a8, hs]) (by first | decide | omega) (by rw [t5, if_neg (by decide), a2, hw]) (by first | decide | omega) (by rw [tc 17 (by first | decide | omega), ehn, hnn]) (by first | decide | omega)
        have f11 : (wr S (clA S c) 10 3).2 (clA S c) 11 = S.2 119 c := by rw [t5, if_neg (by decide), a13]
        have f3 : (wr S (clA S c) 10 3).2 (clA S c) 3 = S.2 111 c := by rw [t5, if_neg (by decide), a5]
        rw [f11, f3] at x1 x5
        rw [f11] at x4
        have y1 : ∀ a, a < 151 → a ≠ 21 → T1.2 a = S.2 a := fun a q1 q2 => by rw [x3 a q2 (by first | decide | omega), tc a (by first | decide | omega)]
        have u0 : ∀ a, a ≠ 118 → (wr T1 118 c 3).2 a = T1.2 a := fun a ha => wr_c ha
        obtain ⟨U1, m1, m2, m3, m4, m5⟩ := m_charge (L := L) (xs := xs) (d := 197) (T := wr T1 118 c 3) (c := c) hc3 (n := n) (s := s) (w := w) (by rw [u0 114 (by first | decide | omega), y1 114 (by first | decide | omega) (by first | decide | omega), hs]) (by first | decide | omega) (by rw [u0 108 (by first | decide | omega), y1 108 (by first | decide | omega) (by first | decide | omega), hw]) (by first | decide | omega) (by rw [u0 72 (by first | decide | omega), y1 72 (by first | decide | omega) (by first | decide | omega), hnn]) (by first | decide | omega)
        have g119 : ∀ k, (wr T1 118 c 3).2 119 k = S.2 119 k := fun k => by rw [u0 119 (by first | decide | omega), y1 119 (by first | decide | omega) (by first | decide | omega)]
        have g111 : (wr T1 118 c 3).2 111 c = S.2 111 c := by rw [u0 111 (by first | decide | omega), y1 111 (by first | decide | omega) (by first | decide | omega)]
        have g77 : ∀ j, (wr T1 118 c 3).2 77 j = S.2 77 j := fun j => by rw [u0 77 (by first | decide | omega), y1 77 (by first | decide | omega) (by first | decide | omega)]
        simp only [g119, g111, g77] at m1 m4 m5
        have hU1 : U1.1 = S.1 := m2.trans x2
        refine ⟨1, T1, U1, ?_, ?_, ?_, Gw.of hU1⟩
        · rw [q_56, x_cl gk hp.2, bR, Int.toNat_natCast, if_neg (by first | decide | omega), g14 ho, k12 ho, rdvD h5, a12, if_pos hk, if_pos rfl, k12w ho, if_pos rfl]
          exact (congrArg (bindR · _) x1).trans rfl
        · have hR' : RK T1.2 := gk.1.fr (fun a ha => y1 a (by first | decide | omega) (by first | decide | omega)) (fun k _ => by rw [y1 72 (by first | decide | omega) (by first | decide | omega)]) (by unfold HM; rw [y1 72 (by first | decide | omega) (by first | decide | omega)]; omega)
          rw [q_304, m_isClaim hR', bR]
          simp only [bi_0, y1 72 (by first | decide | omega) (by first | decide | omega), y1 118 (by first | decide | omega) (by first | decide | omega), Int.toNat_natCast]
          rw [if_neg (fun z => z hp), if_pos hq, if_pos hk, if_pos trivial, if_pos hq, if_pos trivial]
          exact (congrArg (bindR · _) m1).trans rfl
        · have hnw : (if S.2 119 c = 0 then (1 : Int) else S.2 119 c) = 0 ∨ (if S.2 119 c = 0 then (1 : Int) else S.2 119 c) = 1 := by
            split
            · exact Or.inr rfl
            · exact r9
          have hV : Inv (wr (wr (wr (wr S (clA S c) 10 3) (clA S c) 11 (if S.2 119 c = 0 then 1 else S.2 119 c)) 118 c 3) 119 c (if S.2 119 c = 0 then 1 else S.2 119 c)) := by
            generalize (if S.2 119 c = 0 then (1 : Int) else S.2 119 c) = nw at hnw ⊢
            refine H.mark1 hp.2 rfl (fun a q1 q2 => ?_) (fun a q1 q2 => ?_) (fun a j q1 q2 q3 => ?_) ⟨fun k hk2 => ?_, ?_, ?_, ?_, ?_⟩ ?_
            · rw [wr_c (by first | decide | omega), wr_c (by first | decide | omega), wr_c q2, wr_c q2]
            · rw [wr_c (by first | decide | omega), wr_c (by first | decide | omega), wr_c (by first | decide | omega), wr_c (by first | decide | omega)]
            · simp only [wr_2]
              rw [if_neg (fun z => q3 z.2), if_neg (fun z => q3 z.2), if_neg (by first | decide | omega), if_neg (by first | decide | omega)]
            · rw [wr_c (by first | decide | omega), wr_c (by first | decide | omega), wr_f, if_neg (by first | decide | omega), wr_f, if_neg (by first | decide | omega)]
            · rw [wr_c (show clA S c ≠ 119 by omega), wr_c (show clA S c ≠ 118 by omega), wr_f, if_neg (by decide), wr_f, if_pos rfl, wr_c (show (118 : Nat) ≠ 119 by decide), wr_f, if_pos rfl]
            · rw [wr_c (show clA S c ≠ 119 by omega), wr_c (show clA S c ≠ 118 by omega), wr_f, if_pos rfl, wr_f, if_pos rfl]
            · rw [wr_c (show clA S c ≠ 119 by omega), wr_c (show clA S c ≠ 118 by omega), wr_f, if_neg (by decide), wr_f, if_neg (by decide), wr_c (by decide), wr_c (by decide), wr_c (by first | decide | omega), wr_c (by first | decide | omega), a14]
            · rw [wr_c (show clA S c ≠ 119 by omega), wr_c (show clA S c ≠ 118 by omega), wr_f, if_neg (by decide), wr_f, if_neg (by decide), wr_c (show (121 : Nat) ≠ 119 by decide), wr_c (show (121 : Nat) ≠ 118 by decide), wr_c (show 121 ≠ clA S c by omega), wr_c (show 121 ≠ clA S c by omega), wr_c (show (122 : Nat) ≠ 119 by decide), wr_c (show (122 : Nat) ≠ 118 by decide), wr_c (show 122 ≠ clA S c by omega), wr_c (show 122 ≠ clA S c by omega), a15]
            · rw [wr_f, if_pos rfl, wr_c (show (120 : Nat) ≠ 119 by decide), wr_c (show (120 : Nat) ≠ 118 by decide), wr_c (show 120 ≠ clA S c by omega), wr_c (show 120 ≠ clA S c by omega), wr_c (show (121 : Nat) ≠ 119 by decide), wr_c (show (121 : Nat) ≠ 118 by decide), wr_c (show 121 ≠ clA S c by omega), wr_c (show 121 ≠ clA S c by omega), wr_c (show (122 : Nat) ≠ 119 by decide), wr_c (show (122 : Nat) ≠ 118 by decide), wr_c (show 122 ≠ clA S c by omega), wr_c (show 122 ≠ clA S c by omega)]
              exact ⟨hnw, r10, r11, r12⟩
          refine hV.chg hU1 (fun a q1 q2 => ?_) (fun i hi => ?_)
          · funext k
            by_cases b1 : a = 119
            · subst b1
              rw [m4 k, wr_f, wr_c (show (119 : Nat) ≠ 118 by decide), wr_c (show 119 ≠ clA S c by omega), wr_c (show 119 ≠ clA S c by omega)]
              by_cases b2 : k = c
              · rw [if_pos b2, b2]
                by_cases b3 : S.2 119 c = 0
                · rw [if_pos ⟨rfl, b3⟩, if_pos b3]
                · rw [if_neg (fun z => b3 z.2), if_neg b3]
              · rw [if_neg (fun z => b2 z.1), if_neg b2]
            · rw [m3 a q2 b1, wr_c b1]
              by_cases b2 : a = 118
              · subst b2
                rw [wr_f, wr_f, y1 118 (by first | decide | omega) (by first | decide | omega), wr_c (show 118 ≠ clA S c by omega), wr_c (show 118 ≠ clA S c by omega)]
              · rw [wr_c b2, wr_c b2]
                by_cases b3 : a = clA S c
                · rw [b3, x4 k, t5 k, wr_f, wr_f]
                  by_cases b4 : k = 11
                  · subst b4
                    rw [if_pos rfl]
                    by_cases b5 : S.2 119 c = 0
                    · rw [if_pos ⟨rfl, b5⟩, if_pos b5]
                    · rw [if_neg (fun z => b5 z.2), if_neg b5, if_neg (by decide), a13]
                  · rw [if_neg (fun z => b4 z.1), if_neg b4]
                · rw [x3 a q1 b3, tc a b3, wr_c b3, wr_c b3]
          · rw [m3 21 (by first | decide | omega) (by first | decide | omega), wr_c (show (21 : Nat) ≠ 118 by decide), x5 i, m5 i, tc 21 (by first | decide | omega), gp.2.2.2.2.2 i hi]
      · refine ⟨1, wr S (clA S c) 10 2, wr (wr S (clA S c) 10 2) 118 c 2, ?_, ?_, ?_, Gw.of rfl⟩
        · rw [q_56, x_cl gk hp.2, bR, Int.toNat_natCast, if_neg (by first | decide | omega), g14 ho, k12 ho, rdvD h5, a12, if_pos hk, if_neg hz, k12w ho, if_neg hz]
        · have e1 : ∀ a, a < 151 → (wr S (clA S c) 10 2).2 a = S.2 a := fun a ha => wr_c (by first | decide | omega)
          have hR' : RK (wr S (clA S c) 10 2).2 := gk.1.fr (fun a ha => e1 a (by first | decide | omega)) (fun k _ => by rw [e1 72 (by first | decide | omega)]) (by unfold HM; rw [e1 72 (by first | decide | omega)]; omega)
          rw [q_304, m_isClaim hR', bR]
          simp only [bi_0, e1 72 (by first | decide | omega), e1 118 (by first | decide | omega), Int.toNat_natCast]
          rw [if_neg (fun z => z hp), if_pos hq, if_pos hk, if_neg hz, if_pos hq, if_neg hz]
        · refine H.mark1 hp.2 rfl (fun a q1 q2 => ?_) (fun a q1 q2 => ?_) (fun a j q1 q2 q3 => ?_) ⟨fun k hk2 => ?_, ?_, ?_, ?_, ?_⟩ ?_
          · rw [wr_c (by first | decide | omega), wr_c q2]
          · rw [wr_c (by first | decide | omega), wr_c (by first | decide | omega)]
          · simp only [wr_2]
            rw [if_neg (fun z => q3 z.2), if_neg (by first | decide | omega)]
          · rw [wr_c (by first | decide | omega), wr_f, if_neg (by first | decide | omega)]
          · rw [wr_c (show clA S c ≠ 118 by omega), wr_f, if_pos rfl, wr_f, if_pos rfl]
          · rw [wr_c (show clA S c ≠ 118 by omega), wr_f, if_neg (by decide), wr_c (by decide), wr_c (by first | decide | omega), a13]
          · rw [wr_c (show clA S c ≠ 118 by omega), wr_f, if_neg (by decide), wr_c (by decide), wr_c (by first | decide | omega), a14]
          · rw [wr_c (show clA S c ≠ 118 by omega), wr_f, if_neg (by decide), wr_c (show (121 : Nat) ≠ 118 by decide), wr_c (show 121 ≠ clA S c by omega), wr_c (show (122 : Nat) ≠ 118 by decide), wr_c (show 122 ≠ clA S c by omega), a15]
          · rw [wr_c (show (119 : Nat) ≠ 118 by decide), wr_c (show 119 ≠ clA S c by omega), wr_c (show (120 : Nat) ≠ 118 by decide), wr_c (show 120 ≠ clA S c by omega), wr_c (show (121 : Nat) ≠ 118 by decide), wr_c (show 121 ≠ clA S c by omega), wr_c (show (122 : Nat) ≠ 118 by decide), wr_c (show 122 ≠ clA S c by omega)]
            exact ⟨r9, r10, r11, r12⟩
    · refine Ok.same (r := 0) H ?_ ?_
      · rw [q_56, x_cl gk hp.2, bR, Int.toNat_natCast, if_neg (by first | decide | omega), g14 ho, k12 ho, rdvD h5, a12, if_neg hk]
      · rw [q_304, m_isClaim gk.1, bR]
        simp only [bi_0, Int.toNat_natCast]
        rw [if_neg (fun z => z hp), if_pos hq, if_neg hk]
  · refine Ok.same (r := 0) H ?_ ?_
    · rw [q_56, x_cl0 gk hp, bR, if_pos (by decide)]
    · rw [q_304, m_isClaim gk.1, bR]
      simp only [bi_0]
      rw [if_pos hp]
end
end
section
-- 45.check
/-! check -/
/-- how many of the first i payments are of the year y -/
noncomputable def pR (h : Nat → Nat → Int) (y : Int) (i : Nat) : Int := sm (fun j => if pin h (h 45 j).toNat y = true then 1 else 0) i
noncomputable def rnk (h : Nat → Nat → Int) (y t : Int) (n : Nat) : Int := sm (fun e => if pin h e y = true ∧ h 117 e < t then 1 else 0) n
theorem pR_mono {h : Nat → Nat → Int} {y : Int} {i : Nat} : ∀ k : Nat, pR h y i ≤ pR h y (i + k) := by
  intro k
  induction k with
  | zero => exact Int.le_refl _
  | succ k ih =>
    have e : pR h y (i + (k + 1)) = pR h y (i + k) + if pin h (h 45 (i + k)).toNat y = true then 1 else 0 := rfl
    rw [e]
    split <;> omega
theorem pR_bd {h : Nat → Nat → Int} {y : Int} (i : Nat) : 0 ≤ pR h y i ∧ pR h y i ≤ i * 1 := by
  refine sm_bd (fun j _ => ?_)
  split <;> omega
section
variable {L : Nat} {xs : Nat → Int} {d : Nat} {S S' : AH} {o : Nat}
theorem rnk_swap (gk : GK S) (y : Int) : ∀ i : Nat, (i : Int) ≤ S.2 72 53 → rnk S.2 y i (nClaims S.2) = pR S.2 y i := by
  obtain ⟨hn, hn3⟩ := nC gk
  intro i
  induction i with
  | zero =>
    intro _
    have e : pR S.2 y 0 = 0 := rfl
    rw [e, ← sm_zero (nClaims S.2)]
    refine sm_congr (fun c hc => ?_)
    rw [if_neg]
    rintro ⟨z1, z2⟩
    have hr := (gk.1.2.2.2.1 c (by first | decide | omega)).2.2.2.2.2.2.1
    unfold pin at z1
    simp only [decide_eq_true_eq] at z1
    omega
  | succ i ih =>
    intro hi
    have hh := ih (by first | decide | omega)
    obtain ⟨p1, p2, p3, p4⟩ := gk.2.2.2.2.2.2.1 i (by first | decide | omega)
    obtain ⟨e0, he0⟩ := Int.eq_ofNat_of_zero_le p1
    rw [he0, Int.toNat_natCast] at p3 p4
    have hu : pR S.2 y (i + 1) = pR S.2 y i + if pin S.2 (S.2 45 i).toNat y = true then 1 else 0 := rfl
    rw [hu, ← hh, he0, Int.toNat_natCast]
    have h1 := sm_one (f := fun e => if pin S.2 e y = true ∧ S.2 117 e < (i : Int) then 1 else 0) (g := fun e => if pin S.2 e y = true ∧ S.2 117 e < ((i + 1 : Nat) : Int) then 1 else 0) (c := e0) (n := nClaims S.2) (by first | decide | omega) (fun e he hne => by
      by_cases q : pin S.2 e y = true
      · have hd : S.2 115 e ≠ -1 := by
          unfold pin at q
          simp only [decide_eq_true_eq] at q
          exact q.1
        have hb := gk.2.2.2.2.2.2.2.1 e (by first | decide | omega) hd
        by_cases q2 : S.2 117 e = i
        · rw [q2, Int.toNat_natCast, he0] at hb
          omega
        · by_cases q3 : S.2 117 e < (i : Int)
          · rw [if_pos ⟨q, by omega⟩, if_pos ⟨q, q3⟩]
          · rw [if_neg (by first | decide | omega), if_neg (fun z => q3 z.2)]
      · rw [if_neg (fun z => q z.1), if_neg (fun z => q z.1)])
    unfold rnk
    rw [h1]
    show _ - (if pin S.2 e0 y = true ∧ S.2 117 e0 < (i : Int) then (1 : Int) else 0) + (if pin S.2 e0 y = true ∧ S.2 117 e0 < ((i + 1 : Nat) : Int) then (1 : Int) else 0) = _
    rw [if_neg (show ¬ (pin S.2 e0 y = true ∧ S.2 117 e0 < (i : Int)) by omega)]
    by_cases q : pin S.2 e0 y = true
    · rw [if_pos ⟨q, by omega⟩, if_pos q]
      omega
    · rw [if_neg (fun z => q z.1), if_neg q]
      omega
/-- a claim paid in y, by its turn -/
theorem turn_of (gk : GK S) {y : Int} {c : Nat} (hc : (c : Int) < S.2 72 52) (hp : pin S.2 c y = true) : ∃ t : Nat, S.2 117 c = t ∧ (t : Int) < S.2 72 53 ∧ S.2 45 t = c ∧ rnk S.2 y (S.2 117 c) (nClaims S.2) = pR S.2 y t ∧ pR S.2 y (t + 1) = pR S.2 y t + 1 := by
  have hd : S.2 115 c ≠ -1 := by
    unfold pin at hp
    simp only [decide_eq_true_eq] at hp
    exact hp.1
  have hr := (gk.1.2.2.2.1 c hc).2.2.2.2.2.2.1
  have hb := gk.2.2.2.2.2.2.2.1 c hc hd
  obtain ⟨t, ht⟩ := Int.eq_ofNat_of_zero_le (show 0 ≤ S.2 117 c by omega)
  rw [ht, Int.toNat_natCast] at hb
  refine ⟨t, ht, by omega, hb, ?_, ?_⟩
  · rw [ht]
    exact rnk_swap gk y t (by first | decide | omega)
  · have hu : pR S.2 y (t + 1) = pR S.2 y t + if pin S.2 (S.2 45 t).toNat y = true then 1 else 0 := rfl
    rw [hu, hb, Int.toNat_natCast, if_pos hp]
theorem turn_one (gk : GK S) {y : Int} {c e : Nat} (hc : (c : Int) < S.2 72 52) (he : (e : Int) < S.2 72 52) (hp : pin S.2 c y = true) (hq : pin S.2 e y = true) (h : rnk S.2 y (S.2 117 c) (nClaims S.2) = rnk S.2 y (S.2 117 e) (nClaims S.2)) : c = e := by
  obtain ⟨t, t1, t2, t3, t4, t5⟩ := turn_of gk hc hp
  obtain ⟨u, u1, u2, u3, u4, u5⟩ := turn_of gk he hq
  rw [t4, u4] at h
  rcases Nat.lt_trichotomy t u with q | q | q
  · have := pR_mono (h := S.2) (y := y) (i := t + 1) (u - (t + 1))
    rw [show t + 1 + (u - (t + 1)) = u by omega] at this
    omega
  · subst q
    omega
  · have := pR_mono (h := S.2) (y := y) (i := u + 1) (t - (u + 1))
    rw [show u + 1 + (t - (u + 1)) = t by omega] at this
    omega
theorem m_rnk (gk : GK S) {y k : Int} {c : Nat} (hc : (c : Int) < S.2 72 52) : ∀ (m e : Nat), e + m = nClaims S.2 → LQ (WK L xs) (ev (WK L xs) (d + 1)) 314 28 [some (vr 72), some (vi y), some (vi k), some (vi (c : Int)), some (vi (rnk S.2 y (S.2 117 c) e)), some (vi (e : Int))] [] S = (if rnk S.2 y (S.2 117 c) (nClaims S.2) = k then some ((c : Int), S) else LQ (WK L xs) (ev (WK L xs) (d + 1)) 314 2 [some (vr 72), some (vi y), some (vi k), some (vi ((c + 1 : Nat) : Int)), none, none] [] S) := by
  obtain ⟨hn, hn3⟩ := nC gk
  have hq : (0 : Int) ≤ (c : Int) ∧ (c : Int) < 300 := by omega
  have e2 : (c : Int) + 1 = ((c + 1 : Nat) : Int) := by omega
  intro m
  induction m with
  | zero =>
    intro e he
    rw [q_314_28, hn, if_neg (by first | decide | omega), show e = nClaims S.2 by omega, w32e (x := (c : Int) + 1) (by first | decide | omega) (by first | decide | omega), e2]
  | succ m ih =>
    intro e he
    have e1 : (e : Int) + 1 = ((e + 1 : Nat) : Int) := by omega
    have hi := ih (e + 1) (by first | decide | omega)
    have hu : rnk S.2 y (S.2 117 c) (e + 1) = rnk S.2 y (S.2 117 c) e + if pin S.2 e y = true ∧ S.2 117 e < S.2 117 c then 1 else 0 := rfl
    have hb : 0 ≤ rnk S.2 y (S.2 117 c) e ∧ rnk S.2 y (S.2 117 c) e ≤ e * 1 := sm_bd (fun j _ => by split <;> omega)
    have hqe : (0 : Int) ≤ (e : Int) ∧ (e : Int) < 300 := by omega
    rw [q_314_28, hn, if_pos (by first | decide | omega), m_paidIn (by first | decide | omega), bR, if_pos hqe, if_pos hq, Int.toNat_natCast, Int.toNat_natCast, w32e (x := (e : Int) + 1) (by first | decide | omega) (by first | decide | omega), e1, w32e (x := rnk S.2 y (S.2 117 c) e + 1) (by first | decide | omega) (by first | decide | omega), w32e (x := rnk S.2 y (S.2 117 c) e + 0) (by first | decide | omega) (by first | decide | omega)]
    simp only [bi_0]
    by_cases q1 : pin S.2 e y = true
    · rw [if_neg (fun z => z q1)]
      by_cases q2 : S.2 117 e < S.2 117 c
      · rw [if_pos ⟨q1, q2⟩] at hu
        rw [if_pos q2, ← hu]
        exact hi
      · rw [if_neg (fun z => q2 z.2)] at hu
        rw [if_neg q2, ← hu]
        exact hi
    · rw [if_neg (fun z => q1 z.1)] at hu
      rw [if_pos q1, ← hu]
      exact hi
theorem m_nth1 (gk : GK S) {y : Int} {c0 : Nat} (hc : (c0 : Int) < S.2 72 52) (hp : pin S.2 c0 y = true) : ev (WK L xs) (d + 2) 314 [vr 72, vi y, vi (rnk S.2 y (S.2 117 c0) (nClaims S.2))] S = some ((c0 : Int), S) := by
  obtain ⟨hn, hn3⟩ := nC gk
  have key : ∀ (m c : Nat), c + m = c0 → LQ (WK L xs) (ev (WK L xs) (d + 1)) 314 2 [some (vr 72), some (vi y), some (vi (rnk S.2 y (S.2 117 c0) (nClaims S.2))), some (vi (c : Int)), none, none] [] S = some ((c0 : Int), S) := by
    intro m
    induction m with
    | zero =>
      intro c hcm
      have e : c = c0 := by omega
      subst e
      have hr := m_rnk (L := L) (xs := xs) (d := d) gk (y := y) (k := rnk S.2 y (S.2 117 c) (nClaims S.2)) hc (nClaims S.2) 0 (by first | decide | omega)
      rw [if_pos rfl] at hr
      rw [q_314_2, if_pos hc, m_paidIn (by first | decide | omega), bR]
      simp only [bi_0]
      rw [if_neg (fun z => z hp)]
      exact hr
    | succ m ih =>
      intro c hcm
      have e1 : (c : Int) + 1 = ((c + 1 : Nat) : Int) := by omega
      have hcl : (c : Int) < S.2 72 52 := by omega
      rw [q_314_2, if_pos hcl, m_paidIn (by first | decide | omega), bR, w32e (by first | decide | omega) (by first | decide | omega), e1, ih (c + 1) (by first | decide | omega)]
      simp only [bi_0]
      by_cases q1 : pin S.2 c y = true
      · have hr := m_rnk (L := L) (xs := xs) (d := d) gk (y := y) (k := rnk S.2 y (S.2 117 c0) (nClaims S.2)) hcl (nClaims S.2) 0 (by first | decide | omega)
        rw [if_neg (fun z => by have := turn_one gk hcl hc q1 hp z; omega), ih (c + 1) (by first | decide | omega)] at hr
        rw [if_neg (fun z => z q1)]
        exact hr
      · rw [if_pos q1]
  rw [q_314]
  exact key c0 0 (by first | decide | omega)
theorem m_nth0 (gk : GK S) {y k : Int} (hk : pR S.2 y (S.2 72 53).toNat ≤ k) : ev (WK L xs) (d + 2) 314 [vr 72, vi y, vi k] S = some (-1, S) := by
  obtain ⟨hn, hn3⟩ := nC gk
  have key : ∀ (m c : Nat), c + m = nClaims S.2 → LQ (WK L xs) (ev (WK L xs) (d + 1)) 314 2 [some (vr 72), some (vi y), some (vi k), some (vi (c : Int)), none, none] [] S = some (-1, S) := by
    intro m
    induction m with
    | zero =>
      intro c hcm
      rw [q_314_2, hn, if_neg (by first | decide | omega)]
    | succ m ih =>
      intro c hcm
      have e1 : (c : Int) + 1 = ((c + 1 : Nat) : Int) := by omega
      have hcl : (c : Int) < S.2 72 52 := by omega
      rw [q_314_2, if_pos hcl, m_paidIn (by first | decide | omega), bR, w32e (by first | decide | omega) (by first | decide | omega), e1, ih (c + 1) (by first | decide | omega)]
      simp only [bi_0]
      by_cases q1 : pin S.2 c y = true
      · have hr := m_rnk (L := L) (xs := xs) (d := d) gk (y := y) (k := k) hcl (nClaims S.2) 0 (by first | decide | omega)
        obtain ⟨t, t1, t2, t3, t4, t5⟩ := turn_of gk hcl q1
        have hm := pR_mono (h := S.2) (y := y) (i := t + 1) ((S.2 72 53).toNat - (t + 1))
        rw [show t + 1 + ((S.2 72 53).toNat - (t + 1)) = (S.2 72 53).toNat by omega] at hm
        rw [if_neg (fun z => by rw [t4] at z; omega), ih (c + 1) (by first | decide | omega)] at hr
        rw [if_neg (fun z => z q1)]
        exact hr
      · rw [if_pos q1]
  rw [q_314]
  exact key (nClaims S.2) 0 (by first | decide | omega)
end
end
section
-- 46.opcheck
/-! check: the call -/
noncomputable def wrd (t : Nat → Int) (w : Nat) : Int := ior (ishl (ior (ishl (ior (ishl (ior (ishl 0 8) (iand (t (4 * w)) 255)) 8) (iand (t (4 * w + 1)) 255)) 8) (iand (t (4 * w + 2)) 255)) 8) (iand (t (4 * w + 3)) 255)
section
variable {L : Nat} {xs : Nat → Int} {d : Nat} {S S' T U : AH} {o : Nat}
theorem x_w1 {w k : Nat} (hw : 4 * w + k < 400) (hk : k < 4) (a : Int) : LQ (WK L xs) (ev (WK L xs) d) 65 4 [some (vr 15), some (vi (w : Int)), some (vi a), some (vi (k : Int)), none, none] [] S = LQ (WK L xs) (ev (WK L xs) d) 65 4 [some (vr 15), some (vi (w : Int)), some (vi (ior (ishl a 8) (iand (S.2 16 (4 * w + k)) 255))), some (vi ((k + 1 : Nat) : Int)), none, none] [] S := by
  rw [q_65_4, if_pos (by first | decide | omega), w32e (x := (w : Int) * 4) (by first | decide | omega) (by first | decide | omega), w32e (x := (w : Int) * 4 + (k : Int)) (by first | decide | omega) (by first | decide | omega), if_neg (by first | decide | omega), if_pos (by first | decide | omega), if_pos (by first | decide | omega), w32e (x := (k : Int) + 1) (by first | decide | omega) (by first | decide | omega), show ((w : Int) * 4 + (k : Int)).toNat = 4 * w + k by omega, show (k : Int) + 1 = ((k + 1 : Nat) : Int) by omega]
theorem x_word {w : Nat} (hw : 4 * w + 3 < 400) : ev (WK L xs) (d + 1) 65 [vr 15, vi (w : Int)] S = some (wrd (S.2 16) w, S) := by
  have h0 := x_w1 (L := L) (xs := xs) (d := d) (S := S) (w := w) (k := 0) (by first | decide | omega) (by first | decide | omega)
  have h1 := x_w1 (L := L) (xs := xs) (d := d) (S := S) (w := w) (k := 1) (by first | decide | omega) (by first | decide | omega)
  have h2 := x_w1 (L := L) (xs := xs) (d := d) (S := S) (w := w) (k := 2) (by first | decide | omega) (by first | decide | omega)
  have h3 := x_w1 (L := L) (xs := xs) (d := d) (S := S) (w := w) (k := 3) (by first | decide | omega) (by first | decide | omega)
  rw [q_65]
  refine (h0 0).trans ((h1 _).trans ((h2 _).trans ((h3 _).trans ?_)))
  rw [q_65_4, if_neg (by decide)]
  rfl
theorem m_w1 {w k : Nat} (hw : 4 * w + k < 400) (hk : k < 4) (a : Int) : LQ (WK L xs) (ev (WK L xs) d) 315 4 [some (vr 72), some (vi (w : Int)), some (vi a), some (vi (k : Int))] [] S = LQ (WK L xs) (ev (WK L xs) d) 315 4 [some (vr 72), some (vi (w : Int)), some (vi (ior (ishl a 8) (iand (S.2 73 (4 * w + k)) 255))), some (vi ((k + 1 : Nat) : Int))] [] S := by
  rw [q_315_4, if_pos (by first | decide | omega), w32e (x := 4 * (w : Int)) (by first | decide | omega) (by first | decide | omega), w32e (x := 4 * (w : Int) + (k : Int)) (by first | decide | omega) (by first | decide | omega), if_pos (by first | decide | omega), w32e (x := (k : Int) + 1) (by first | decide | omega) (by first | decide | omega), show (4 * (w : Int) + (k : Int)).toNat = 4 * w + k by omega, show (k : Int) + 1 = ((k + 1 : Nat) : Int) by omega]
theorem m_word {w : Nat} (hw : 4 * w + 3 < 400) : ev (WK L xs) (d + 1) 315 [vr 72, vi (w : Int)] S = some (wrd (S.2 73) w, S) := by
  have h0 := m_w1 (L := L) (xs := xs) (d := d) (S := S) (w := w) (k := 0) (by first | decide | omega) (by first | decide | omega)
  have h1 := m_w1 (L := L) (xs := xs) (d := d) (S := S) (w := w) (k := 1) (by first | decide | omega) (by first | decide | omega)
  have h2 := m_w1 (L := L) (xs := xs) (d := d) (S := S) (w := w) (k := 2) (by first | decide | omega) (by first | decide | omega)
  have h3 := m_w1 (L := L) (xs := xs) (d := d) (S := S) (w := w) (k := 3) (by first | decide | omega) (by first | decide | omega)
  rw [q_315]
  refine (h0 0).trans ((h1 _).trans ((h2 _).trans ((h3 _).trans ?_)))
  rw [q_315_4, if_neg (by decide)]
  rfl
theorem wrd_eq {t u : Nat → Int} {w : Nat} (h : ∀ k, k < 400 → t k = u k) (hw : 4 * w + 3 < 400) : wrd t w = wrd u w := by
  unfold wrd
  rw [h _ (show 4 * w < 400 by omega), h _ (show 4 * w + 1 < 400 by omega), h _ (show 4 * w + 2 < 400 by omega), h _ hw]
theorem chk_sim (gk : GK S) (gT : GK T) (gU : GK U) (hT : ∀ a, a ≠ 15 → T.2 a = S.2 a) (hU : ∀ a, a ≠ 15 → a ≠ 72 → U.2 a = S.2 a) (hU2 : ∀ k, k ≠ 1 → U.2 72 k = S.2 72 k) (ht : ∀ k, k < 400 → S.2 16 k = S.2 73 k) {y : Int} {n : Nat} (hn4 : 12 * n ≤ 400) : ∀ (m i k : Nat), (i : Int) + m = S.2 72 53 → (k : Int) = pR S.2 y i → k ≤ n → ∃ r, LQ (WK L xs) (ev (WK L xs) (d + 4)) 63 43 [some (vr 15), some (vi y), some (vi (n : Int)), some (vi (3 * (k : Int))), some (vi (i : Int)), none, none, none] [] T = some (r, T) ∧ LQ (WK L xs) (ev (WK L xs) (d + 4)) 313 37 [some (vr 72), some (vi y), some (vi (n : Int)), some (vi (k : Int)), none] [] U = some (r, U) := by
  obtain ⟨hn, hn3⟩ := nC gk
  have hpm := gk.1.2.1
  have epT : pin T.2 = pin S.2 := pin_fr (hT 115 (by first | decide | omega))
  have epU : pin U.2 = pin S.2 := pin_fr (hU 115 (by first | decide | omega) (by first | decide | omega))
  have eR : ∀ i, pR U.2 y i = pR S.2 y i := fun i => by unfold pR; rw [epU, hU 45 (by first | decide | omega) (by first | decide | omega)]
  have ernk : ∀ t c, rnk U.2 y t c = rnk S.2 y t c := fun t c => by unfold rnk; rw [epU, hU 117 (by first | decide | omega) (by first | decide | omega)]
  have eN : nClaims U.2 = nClaims S.2 := by unfold nClaims; rw [hU2 52 (by first | decide | omega)]
  have w3 : w32 (3 * (n : Int)) = 3 * (n : Int) := w32e (by first | decide | omega) (by first | decide | omega)
  intro m
  induction m with
  | zero =>
    intro i k him hk hkn
    have hno : ev (WK L xs) (d + 4) 314 [vr 72, vi y, vi (k : Int)] U = some (-1, U) := m_nth0 gU (by rw [eR, hU2 53 (by first | decide | omega), show (S.2 72 53).toNat = i by omega]; omega)
    have w3k : w32 (3 * (k : Int)) = 3 * (k : Int) := w32e (by first | decide | omega) (by first | decide | omega)
    rw [q_63_43, hT 43 (by first | decide | omega), gk.2.2.1, if_neg (by first | decide | omega), w3, q_313_37]
    by_cases hkk : k = n
    · subst hkk
      rw [if_pos rfl, if_neg (by first | decide | omega), hno, bR, if_pos rfl]
      exact ⟨-1, rfl, rfl⟩
    · rw [if_neg (by first | decide | omega), if_pos (by first | decide | omega), hno, bR, if_pos rfl, w3k]
      exact ⟨_, rfl, rfl⟩
  | succ m ih =>
    intro i k him hk hkn
    obtain ⟨p1, p2, p3, p4⟩ := gk.2.2.2.2.2.2.1 i (by first | decide | omega)
    obtain ⟨c, hc⟩ := Int.eq_ofNat_of_zero_le p1
    rw [hc] at p2
    rw [hc, Int.toNat_natCast] at p3 p4
    have hclT : (c : Int) < T.2 72 52 := by rw [hT 72 (by first | decide | omega)]; exact p2
    have hclU : (c : Int) < U.2 72 52 := by rw [hU2 52 (by first | decide | omega)]; exact p2
    have ho := gT.ob hclT
    have h5 := ho.1
    obtain ⟨a1, a2, a3, a4, a5, a6, a7, a8, a9, a10, -⟩ := gT.2.2.2.2.1 c hclT
    rw [hT 115 (by first | decide | omega)] at a9
    rw [hT 116 (by first | decide | omega)] at a10
    have e1 : (i : Int) + 1 = ((i + 1 : Nat) : Int) := by omega
    have w3k : w32 (3 * (k : Int)) = 3 * (k : Int) := w32e (by first | decide | omega) (by first | decide | omega)
    have hu : pR S.2 y (i + 1) = pR S.2 y i + if pin S.2 (S.2 45 i).toNat y = true then 1 else 0 := rfl
    rw [hc, Int.toNat_natCast] at hu
    have h92 : ev (WK L xs) (d + 4) 92 [vr 43, vi (i : Int)] T = some ((c : Int), T) := by
      rw [q_92, hT 43 (by first | decide | omega), gk.2.2.1, if_neg (by first | decide | omega), if_pos (by first | decide | omega), if_pos (by first | decide | omega), hT 45 (by first | decide | omega), Int.toNat_natCast, hc]
    rw [q_63_43, hT 43 (by first | decide | omega), gk.2.2.1, if_pos (by first | decide | omega), h92, bR, x_cl gT hclT, bR, Int.toNat_natCast, if_neg (by first | decide | omega), g14 ho, k12a ho, x_pin gT hclT, bR, epT, w3, w32e (x := (i : Int) + 1) (by first | decide | omega) (by first | decide | omega), e1, w32e (x := 3 * (k : Int) + 3) (by first | decide | omega) (by first | decide | omega)]
    simp only [bi_0]
    by_cases hp : pin S.2 c y = true
    · rw [if_pos hp] at hu
      have hrk : rnk S.2 y (S.2 117 c) (nClaims S.2) = k := by rw [p4, rnk_swap gk y i (by first | decide | omega), hk]
      have hnt : ev (WK L xs) (d + 4) 314 [vr 72, vi y, vi (k : Int)] U = some ((c : Int), U) := by
        have := m_nth1 (L := L) (xs := xs) (d := d + 2) gU (y := y) hclU (by rw [epU]; exact hp)
        rw [ernk, eN, hU 117 (by first | decide | omega) (by first | decide | omega), hrk] at this
        exact this
      rw [if_neg (fun z => z hp)]
      by_cases hkk : k = n
      · subst hkk
        rw [if_neg (by first | decide | omega), q_313_37, if_neg (by first | decide | omega), hnt, bR, if_neg (by first | decide | omega), w3k]
        exact ⟨_, rfl, rfl⟩
      · have hl : k < n := by omega
        have q0 : 4 * (3 * k) + 3 < 400 := by omega
        have q1 : 4 * (3 * k + 1) + 3 < 400 := by omega
        have q2 : 4 * (3 * k + 2) + 3 < 400 := by omega
        have k0 : (3 * (k : Int)) = ((3 * k : Nat) : Int) := by omega
        have k1 : w32 (3 * (k : Int) + 1) = ((3 * k + 1 : Nat) : Int) := by rw [w32e (by first | decide | omega) (by first | decide | omega)]; omega
        have k2 : w32 (3 * (k : Int) + 2) = ((3 * k + 2 : Nat) : Int) := by rw [w32e (by first | decide | omega) (by first | decide | omega)]; omega
        have x0 : ∀ d, ev (WK L xs) (d + 1) 65 [vr 15, vi (3 * (k : Int))] T = some (wrd (S.2 73) (3 * k), T) := fun d => by rw [k0, x_word q0, hT 16 (by first | decide | omega), wrd_eq ht q0]
        have x1 : ∀ d, ev (WK L xs) (d + 1) 65 [vr 15, vi ((3 * k + 1 : Nat) : Int)] T = some (wrd (S.2 73) (3 * k + 1), T) := fun d => by rw [x_word q1, hT 16 (by first | decide | omega), wrd_eq ht q1]
        have x2 : ∀ d, ev (WK L xs) (d + 1) 65 [vr 15, vi ((3 * k + 2 : Nat) : Int)] T = some (wrd (S.2 73) (3 * k + 2), T) := fun d => by rw [x_word q2, hT 16 (by first | decide | omega), wrd_eq ht q2]
        have m0 : ∀ d, ev (WK L xs) (d + 1) 315 [vr 72, vi (3 * (k : Int))] U = some (wrd (S.2 73) (3 * k), U) := fun d => by rw [k0, m_word q0, hU 73 (by first | decide | omega) (by first | decide | omega)]
        have m1 : ∀ d, ev (WK L xs) (d + 1) 315 [vr 72, vi ((3 * k + 1 : Nat) : Int)] U = some (wrd (S.2 73) (3 * k + 1), U) := fun d => by rw [m_word q1, hU 73 (by first | decide | omega) (by first | decide | omega)]
        have m2 : ∀ d, ev (WK L xs) (d + 1) 315 [vr 72, vi ((3 * k + 2 : Nat) : Int)] U = some (wrd (S.2 73) (3 * k + 2), U) := fun d => by rw [m_word q2, hU 73 (by first | decide | omega) (by first | decide | omega)]
        have hc3 : (0 : Int) ≤ (c : Int) ∧ (c : Int) < 300 := by omega
        have e2 : (k : Int) + 1 = ((k + 1 : Nat) : Int) := by omega
        obtain ⟨r, i1, i2⟩ := ih (i + 1) (k + 1) (by first | decide | omega) (by first | decide | omega) (by first | decide | omega)
        rw [show 3 * ((k + 1 : Nat) : Int) = 3 * (k : Int) + 3 by omega] at i1
        rw [if_pos (by first | decide | omega), q_64, x0, bR, k1, x1, bR, k12 ho, rdvD h5, a10, k2, x2, bR, k12 ho, rdvD h5, a9, q_313_37, if_pos (show (k : Int) < (n : Int) by omega), hnt, bR, if_neg (show ¬ (c : Int) = -1 by omega), w3k, m0, bR, k1, m1, bR, if_pos hc3, k2, m2, bR, if_pos hc3, hU 116 (by first | decide | omega) (by first | decide | omega), hU 115 (by first | decide | omega) (by first | decide | omega), Int.toNat_natCast, w32e (x := (k : Int) + 1) (by first | decide | omega) (by first | decide | omega), e2]
        by_cases z0 : wrd (S.2 73) (3 * k) = c
        · rw [if_pos z0, if_pos z0]
          by_cases z1 : wrd (S.2 73) (3 * k + 1) = S.2 116 c
          · rw [if_pos z1, if_pos z1]
            by_cases z2 : wrd (S.2 73) (3 * k + 2) = S.2 115 c
            · rw [if_pos z2, if_pos z2, bR, if_pos rfl]
              exact ⟨r, i1, i2⟩
            · rw [if_neg z2, if_neg z2, bR, if_neg (by first | decide | omega)]
              exact ⟨_, rfl, rfl⟩
          · rw [if_neg z1, if_neg z1, bR, if_neg (by first | decide | omega)]
            exact ⟨_, rfl, rfl⟩
        · rw [if_neg z0, if_neg z0, bR, if_neg (by first | decide | omega)]
          exact ⟨_, rfl, rfl⟩
    · rw [if_neg hp, Int.add_zero] at hu
      rw [if_pos hp]
      exact ih (i + 1) k (by first | decide | omega) (by first | decide | omega) hkn
theorem o_check (H : Inv S) (p q : Int) (hq2 : -2147483648 ≤ q ∧ q ≤ 2147483647) : Ok L xs 63 313 [vi p, vi q] S := by
  have gk := H.gk
  obtain ⟨b1, b2, b3, b4⟩ := H.gb
  have hpm := gk.1.2.1
  have hd : idiv (S.2 72 1) 12 = S.2 72 1 / 12 := by
    unfold idiv
    rw [Int.tdiv_eq_ediv_of_nonneg b2, w32e (by first | decide | omega) (by first | decide | omega)]
  by_cases hc : (0 ≤ p ∧ p < 10) ∧ 0 ≤ q ∧ 12 * q ≤ S.2 72 1
  · obtain ⟨h1, h2, h3⟩ := hc
    obtain ⟨n, hn⟩ := Int.eq_ofNat_of_zero_le h2
    subst hn
    have hT : ∀ a, a ≠ 15 → (wr S 15 4 0).2 a = S.2 a := fun a ha => wr_c ha
    have hU : ∀ a, a ≠ 15 → a ≠ 72 → (wr (wr S 15 4 0) 72 1 0).2 a = S.2 a := fun a q1 q2 => by rw [wr_c q2, wr_c q1]
    have hU2 : ∀ k, k ≠ 1 → (wr (wr S 15 4 0) 72 1 0).2 72 k = S.2 72 k := fun k hk => by rw [wr_f, if_neg hk, wr_c (by decide)]
    have gT : GK (wr S 15 4 0) := gk.fr (Fr.wr (by decide)) (fun a ha => hT a (by unfold lvk at ha; omega)) (fun k _ => by rw [hT 72 (by decide)]) (by unfold HM; rw [hT 72 (by decide)]; omega)
    have gU : GK (wr (wr S 15 4 0) 72 1 0) := gk.fr ((Fr.wr (by decide)).tr (Fr.wr (by decide))) (fun a ha => hU a (by unfold lvk at ha; omega) (by unfold lvk at ha; omega)) (fun k hk => hU2 k (by unfold lvf at hk; omega)) (by unfold HM; rw [hU2 4 (by decide), hU2 5 (by decide)]; omega)
    obtain ⟨r, x1, m1⟩ := chk_sim (L := L) (xs := xs) (d := 195) gk gT gU hT hU hU2 b4 (y := p) (n := n) (by first | decide | omega) (S.2 72 53).toNat 0 0 (by first | decide | omega) rfl (by first | decide | omega)
    refine ⟨r, wr S 15 4 0, wr (wr S 15 4 0) 72 1 0, ?_, ?_, ?_, Gw.of rfl⟩
    · rw [q_63, x_isYear, bR]
      simp only [bi_0, lc_gt]
      rw [if_neg (fun z => z h1), if_neg (by first | decide | omega), b1, w64e (x := (n : Int) * 3) (by first | decide | omega) (by first | decide | omega), w64e (by first | decide | omega) (by first | decide | omega), if_neg (by first | decide | omega)]
      exact x1
    · rw [q_313, m_lies, bR]
      simp only [bi_0]
      rw [if_neg (by first | decide | omega), if_neg (by first | decide | omega), hT 72 (by decide), hd, if_neg (by first | decide | omega)]
      exact m1
    · refine Inv.upd H ?_ (fun a ha => ?_) (fun k hk => ?_) ?_ ?_ ?_ ?_ ?_ ?_ ?_ ?_ ?_
      · repeat' first | refine Fr.tr ?_ (Fr.wr (by decide)) | exact Fr.rf
      · unfold lvk at ha
        repeat rw [wr_c (by first | decide | omega)]
      · unfold lvf at hk
        rcases hk with rfl | rfl | rfl | rfl | rfl | rfl <;> simp [wr_c, wr_f]
      · simp [HM, wr_c, wr_f]
      · exact H.gt.fr (by simp [wr_c, wr_f]) (by simp [wr_c, wr_f])
      · exact H.gc.fr (by simp [wr_c, wr_f]) (by simp [wr_c, wr_f])
      · exact H.gx.fr (by simp [wr_c, wr_f]) (by simp [wr_c, wr_f])
      · unfold GB
        simp [wr_c, wr_f]
        exact b4
      · exact H.gp.fr (by simp [wr_c, wr_f]) (by simp [wr_c, wr_f]) (fun a ha => by repeat rw [wr_c (by first | decide | omega)])
      · exact H.gu.fr (by simp [wr_c, wr_f]) (by simp [wr_c, wr_f]) (by simp [wr_c, wr_f]) (fun a ha => by repeat rw [wr_c (by first | decide | omega)])
      · exact H.gw.fr (by simp [wr_c, wr_f]) (by simp [wr_c, wr_f]) (by simp [wr_c, wr_f]) (by simp [wr_c, wr_f]) (fun a ha => by repeat rw [wr_c (by first | decide | omega)])
      · exact H.gn.fr (by simp [wr_c, wr_f]) (by simp [wr_c, wr_f]) (by simp [wr_c, wr_f]) (by simp [wr_c, wr_f]) (by simp [wr_c, wr_f]) (by simp [wr_c, wr_f]) (fun a ha => by repeat rw [wr_c (by first | decide | omega)])
  · refine Ok.same (r := -2) H ?_ ?_
    · rw [q_63, x_isYear, bR]
      simp only [bi_0, lc_gt]
      rw [b1]
      by_cases h1 : 0 ≤ p ∧ p < 10
      · rw [if_neg (fun z => z h1)]
        by_cases h2 : q < 0
        · rw [if_pos h2]
        · rw [if_neg h2, w64e (x := q * 3) (by first | decide | omega) (by first | decide | omega), w64e (by first | decide | omega) (by first | decide | omega), if_pos (by first | decide | omega)]
      · rw [if_pos h1]
    · rw [q_313, m_lies, bR]
      simp only [bi_0]
      rw [hd]
      by_cases h1 : 0 ≤ p ∧ p ≤ 9
      · rw [if_neg (fun z => z h1)]
        by_cases h2 : q < 0
        · rw [if_pos h2]
        · rw [if_neg h2, if_pos (by first | decide | omega)]
      · rw [if_pos h1]
end
end
