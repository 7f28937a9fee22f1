/-! what a group does not read may change -/
noncomputable def Fr (S S' : AH) : Prop := S.1.1 ≤ S'.1.1 ∧ ∀ a, 151 ≤ a → a < S.1.1 → S'.1.2.2 a = S.1.2.2 a ∧ S'.2 a = S.2 a
theorem Fr.rf {S : AH} : Fr S S := ⟨Nat.le_refl _, fun _ _ _ => ⟨rfl, rfl⟩⟩
theorem Fr.tr {S T U : AH} (h : Fr S T) (k : Fr T U) : Fr S U := ⟨Nat.le_trans h.1 k.1, fun a h1 h2 => ⟨(k.2 a h1 (Nat.lt_of_lt_of_le h2 h.1)).1.trans (h.2 a h1 h2).1, (k.2 a h1 (Nat.lt_of_lt_of_le h2 h.1)).2.trans (h.2 a h1 h2).2⟩⟩
theorem Fr.wr {S : AH} {a k : Nat} {v : Int} (h : a < 151) : Fr S (wr S a k v) := ⟨Nat.le_refl _, fun b h1 _ => ⟨rfl, wr_c (by first | decide | omega)⟩⟩
theorem Fr.nw {S : AH} {t n : Nat} {f : Nat → Int} : Fr S (nwc S t n f) := by
  refine ⟨Nat.le_succ _, fun b h1 h2 => ⟨?_, ?_⟩⟩
  · show (if b = S.1.1 then (t, n) else S.1.2.2 b) = S.1.2.2 b
    rw [if_neg (by first | decide | omega)]
  · show (if b = S.1.1 then f else S.2 b) = S.2 b
    rw [if_neg (by first | decide | omega)]
theorem isO.fr {S S' : AH} {a t n : Nat} (h : isO S a t n) (hF : Fr S S') : isO S' a t n := ⟨h.1, Nat.lt_of_lt_of_le h.2.1 hF.1, by rw [(hF.2 a h.1 h.2.1).1]; exact h.2.2⟩
theorem isO.ct {S S' : AH} {a t n : Nat} (h : isO S a t n) (hF : Fr S S') : S'.2 a = S.2 a := (hF.2 a h.1 h.2.1).2
theorem RX.fr {h h' : Nat → Nat → Int} {t : Nat} {x : TXT} (H : RX h t x) (h1 : h' 78 t = h 78 t) (h2 : ∀ j, j < 16 → h' 79 (16 * t + j) = h 79 (16 * t + j) ∧ h' 80 (16 * t + j) = h 80 (16 * t + j) ∧ h' 81 (16 * t + j) = h 81 (16 * t + j) ∧ h' 82 (16 * t + j) = h 82 (16 * t + j) ∧ h' 83 (16 * t + j) = h 83 (16 * t + j)) (h3 : ∀ i, i < 200 → h' 84 (200 * t + i) = h 84 (200 * t + i) ∧ h' 85 (200 * t + i) = h 85 (200 * t + i)) : RX h' t x := by
  obtain ⟨a1, a2, a3, a4, a5⟩ := H
  refine ⟨by rw [h1]; exact a1, a2, fun j q hq => ?_, a4, fun i q hq => ?_⟩
  · have hj : j < 16 := Nat.lt_of_lt_of_le (List.getElem?_eq_some_iff.mp hq).1 a2
    obtain ⟨b1, b2, b3, b4, b5⟩ := h2 j hj
    rw [b1, b2, b3, b4, b5]
    exact a3 j q hq
  · have hi : i < 200 := Nat.lt_of_lt_of_le (List.getElem?_eq_some_iff.mp hq).1 a4
    rw [(h3 i hi).1, (h3 i hi).2]
    exact a5 i q hq
theorem RX.cells {h h' : Nat → Nat → Int} {t : Nat} {x : TXT} (H : RX h t x) (hc : ∀ a, 78 ≤ a → a ≤ 85 → h' a = h a) : RX h' t x := by
  refine H.fr (by rw [hc 78 (by first | decide | omega) (by first | decide | omega)]) (fun j _ => ?_) (fun i _ => ?_)
  · rw [hc 79 (by first | decide | omega) (by first | decide | omega), hc 80 (by first | decide | omega) (by first | decide | omega), hc 81 (by first | decide | omega) (by first | decide | omega), hc 82 (by first | decide | omega) (by first | decide | omega), hc 83 (by first | decide | omega) (by first | decide | omega)]
    exact ⟨rfl, rfl, rfl, rfl, rfl⟩
  · rw [hc 84 (by first | decide | omega) (by first | decide | omega), hc 85 (by first | decide | omega) (by first | decide | omega)]
    exact ⟨rfl, rfl⟩
theorem CX2.fr {S S' : AH} {a : Nat} {law : Bool} {x : TXT} (H : CX2 S a law x) (hF : Fr S S') : CX2 S' a law x := by
  rcases H with H | ⟨h1, b, s, v, n, h2, h3, h4, h5, h6, h7, h8, h9, h10⟩
  · exact Or.inl H
  · refine Or.inr ⟨h1.fr hF, b, s, v, n, ?_, ?_, ?_, h5.fr hF, h6.fr hF, h7.fr hF, h8, ?_, fun j q hq => ?_⟩
    · rw [h1.ct hF]; exact h2
    · rw [h1.ct hF]; exact h3
    · rw [h1.ct hF]; exact h4
    · have e : byt S'.2 b = byt S.2 b := by unfold byt; rw [h5.ct hF]
      rw [e]; exact h9
    · rw [h6.ct hF, h7.ct hF]
      exact h10 j q hq
theorem TX.fr {S S' : AH} {a t : Nat} (H : TX S a t) (hF : Fr S S') (hc : ∀ a, 78 ≤ a → a ≤ 85 → S'.2 a = S.2 a) : TX S' a t := by
  obtain ⟨x, h1, h2⟩ := H
  exact ⟨x, h1.cells hc, h2.fr hF⟩
theorem pin_fr {h h' : Nat → Nat → Int} (e1 : h' 115 = h 115) : pin h' = pin h := by
  funext c y
  unfold pin
  rw [e1]
theorem cby_fr {h h' : Nat → Nat → Int} (e1 : h' 116 = h 116) (e2 : h' 97 = h 97) (e3 : h' 102 = h 102) : cby h' = cby h := by
  funext c
  unfold cby
  rw [e1, e2, e3]
/-- the fixed cells that laws, votes and claims are read from -/
noncomputable def lvk (a : Nat) : Prop := (31 ≤ a ∧ a ≤ 34) ∨ (36 ≤ a ∧ a ≤ 49) ∨ (78 ≤ a ∧ a ≤ 85) ∨ (94 ≤ a ∧ a ≤ 95) ∨ (97 ≤ a ∧ a ≤ 127) ∨ (146 ≤ a ∧ a ≤ 149)
/-- heads and hands only grow -/
noncomputable def HM (h h' : Nat → Nat → Int) : Prop := h 72 4 ≤ h' 72 4 ∧ h 72 5 ≤ h' 72 5
noncomputable def lvf (k : Nat) : Prop := k = 36 ∨ k = 40 ∨ k = 52 ∨ k = 53 ∨ k = 70 ∨ k = 102
section
variable {S S' : AH}
theorem GL.fr (H : GL S) (hF : Fr S S') (hc : ∀ a, lvk a → S'.2 a = S.2 a) (hk : ∀ k, lvf k → S'.2 72 k = S.2 72 k) : GL S' := by
  obtain ⟨h1, h2, h3, h4⟩ := H
  unfold GL
  rw [hc 31 (by unfold lvk; omega), hc 32 (by unfold lvk; omega), hc 33 (by unfold lvk; omega), hc 34 (by unfold lvk; omega), hc 94 (by unfold lvk; omega), hc 95 (by unfold lvk; omega), hk 36 (by unfold lvf; omega)]
  exact ⟨h1, h2, h3, fun i hi => ⟨(h4 i hi).1, (h4 i hi).2.1, (h4 i hi).2.2.fr hF (fun a q1 q2 => hc a (by unfold lvk; omega))⟩⟩
theorem RV.fr {h h' : Nat → Nat → Int} (H : RV h) (hc : ∀ a, (97 ≤ a ∧ a ≤ 107) ∨ (124 ≤ a ∧ a ≤ 127) → h' a = h a) (hk : ∀ k, k = 40 ∨ k = 70 → h' 72 k = h 72 k) (hm : HM h h') : RV h' := by
  unfold RV at H ⊢
  rw [hk 40 (by first | decide | omega), hk 70 (by first | decide | omega), hc 97 (by first | decide | omega), hc 98 (by first | decide | omega), hc 99 (by first | decide | omega), hc 100 (by first | decide | omega), hc 102 (by first | decide | omega), hc 104 (by first | decide | omega), hc 105 (by first | decide | omega), hc 106 (by first | decide | omega), hc 107 (by first | decide | omega), hc 124 (by first | decide | omega), hc 125 (by first | decide | omega), hc 126 (by first | decide | omega), hc 127 (by first | decide | omega)]
  obtain ⟨H1, H2, H3⟩ := H
  have hm1 := hm.1
  exact ⟨H1, fun v hv => (by obtain ⟨a1, ⟨a2, a3⟩, a4⟩ := H2 v hv; exact ⟨a1, ⟨a2, by omega⟩, a4⟩), H3⟩
theorem RK.fr {h h' : Nat → Nat → Int} (H : RK h) (hc : ∀ a, a = 97 ∨ (108 ≤ a ∧ a ≤ 123) ∨ (147 ≤ a ∧ a ≤ 149) → h' a = h a) (hk : ∀ k, lvf k → h' 72 k = h 72 k) (hm : HM h h') : RK h' := by
  unfold RK at H ⊢
  unfold lvf at hk
  rw [hk 40 (by first | decide | omega), hk 52 (by first | decide | omega), hk 53 (by first | decide | omega), hk 70 (by first | decide | omega), hk 102 (by first | decide | omega), hc 97 (by first | decide | omega), hc 108 (by first | decide | omega), hc 109 (by first | decide | omega), hc 110 (by first | decide | omega), hc 111 (by first | decide | omega), hc 112 (by first | decide | omega), hc 113 (by first | decide | omega), hc 114 (by first | decide | omega), hc 115 (by first | decide | omega), hc 116 (by first | decide | omega), hc 117 (by first | decide | omega), hc 118 (by first | decide | omega), hc 119 (by first | decide | omega), hc 120 (by first | decide | omega), hc 121 (by first | decide | omega), hc 122 (by first | decide | omega), hc 123 (by first | decide | omega), hc 147 (by first | decide | omega), hc 148 (by first | decide | omega)]
  obtain ⟨r1, r2, r3, r4, r5, r6⟩ := H
  have hm1 := hm.1
  have hm2 := hm.2
  exact ⟨r1, r2, r3, fun c q => (by obtain ⟨⟨a1, a2⟩, ⟨b1, b2⟩, z⟩ := r4 c q; exact ⟨⟨a1, by omega⟩, ⟨b1, by omega⟩, z⟩), r5, r6⟩
theorem pby_fr {h h' : Nat → Nat → Int} (e1 : h' 115 = h 115) (e2 : h' 116 = h 116) (e3 : h' 97 = h 97) (e4 : h' 102 = h 102) (e5 : h' 111 = h 111) (e6 : h' 72 52 = h 72 52) : pby h' = pby h := by
  funext v y
  unfold pby nClaims
  rw [pin_fr e1, cby_fr e2 e3 e4, e5, e6]
theorem pct_fr {h h' : Nat → Nat → Int} (e1 : h' 115 = h 115) (e2 : h' 112 = h 112) (e5 : h' 111 = h 111) (e6 : h' 72 52 = h 72 52) : pct h' = pct h := by
  funext v y
  unfold pct nClaims
  rw [pin_fr e1, e2, e5, e6]
theorem AV.fr {v : Nat} (H : AV S v) (hF : Fr S S') (hc : ∀ a, lvk a → S'.2 a = S.2 a) (hk : ∀ k, lvf k → S'.2 72 k = S.2 72 k) : AV S' v ∧ auA S' v = auA S v ∧ spA S' v = spA S v := by
  have e1 : auA S' v = auA S v := by unfold auA; rw [hc 37 (by unfold lvk; omega)]
  have e2 : S'.2 (auA S v) = S.2 (auA S v) := H.1.ct hF
  have e3 : spA S' v = spA S v := by
    unfold spA
    rw [e1, e2]
  refine ⟨?_, e1, e3⟩
  have e4 : S'.2 (spA S v) = S.2 (spA S v) := H.2.1.ct hF
  have e5 : pby S'.2 = pby S.2 := pby_fr (hc 115 (by unfold lvk; omega)) (hc 116 (by unfold lvk; omega)) (hc 97 (by unfold lvk; omega)) (hc 102 (by unfold lvk; omega)) (hc 111 (by unfold lvk; omega)) (hk 52 (by unfold lvf; omega))
  unfold AV at H ⊢
  rw [e1, e3, e2, e4, e5, hc 97 (by unfold lvk; omega), hc 98 (by unfold lvk; omega), hc 99 (by unfold lvk; omega), hc 100 (by unfold lvk; omega), hc 101 (by unfold lvk; omega), hc 102 (by unfold lvk; omega), hc 103 (by unfold lvk; omega), hc 104 (by unfold lvk; omega), hc 105 (by unfold lvk; omega), hc 106 (by unfold lvk; omega), hc 107 (by unfold lvk; omega)]
  obtain ⟨a1, a2, a3, a4, a5, a6, a7, a8, a9, a10, a11, a12, a13, a14, a15, a16⟩ := H
  exact ⟨a1.fr hF, a2.fr hF, a3, a4, a5, a6, a7, a8, a9, a10, a11, a12, a13, a14, a15.fr hF (fun a q1 q2 => hc a (by unfold lvk; omega)), a16⟩
theorem GV.fr (H : GV S) (hF : Fr S S') (hc : ∀ a, lvk a → S'.2 a = S.2 a) (hk : ∀ k, lvf k → S'.2 72 k = S.2 72 k) (hm : HM S.2 S'.2) : GV S' := by
  obtain ⟨h1, h2, h3, h4, h5, h6, h7⟩ := H
  have e5 : pct S'.2 = pct S.2 := pct_fr (hc 115 (by unfold lvk; omega)) (hc 112 (by unfold lvk; omega)) (hc 111 (by unfold lvk; omega)) (hk 52 (by unfold lvf; omega))
  have k40 := hk 40 (by unfold lvf; omega)
  unfold GV
  rw [e5, hc 36 (by unfold lvk; omega), k40, hk 70 (by unfold lvf; omega), hc 38 (by unfold lvk; omega), hc 39 (by unfold lvk; omega), hc 40 (by unfold lvk; omega), hc 41 (by unfold lvk; omega), hc 42 (by unfold lvk; omega), hc 124 (by unfold lvk; omega), hc 125 (by unfold lvk; omega), hc 126 (by unfold lvk; omega), hc 127 (by unfold lvk; omega)]
  refine ⟨h1.fr (fun a q => hc a (by unfold lvk; omega)) (fun k q => hk k (by unfold lvf; omega)) hm, h2, h3, fun v hv => ((h4 v hv).fr hF hc hk).1, fun v w hv hw q => ?_, h6, h7⟩
  obtain ⟨-, a1, a2⟩ := (h4 v hv).fr hF hc hk
  obtain ⟨-, b1, b2⟩ := (h4 w hw).fr hF hc hk
  rw [a1, a2, b1, b2] at q
  exact h5 v w hv hw q
theorem AK.fr {c : Nat} (H : AK S c) (hF : Fr S S') (hc : ∀ a, lvk a → S'.2 a = S.2 a) : AK S' c ∧ clA S' c = clA S c := by
  have e1 : clA S' c = clA S c := by unfold clA; rw [hc 44 (by unfold lvk; omega)]
  refine ⟨?_, e1⟩
  have e2 : S'.2 (clA S c) = S.2 (clA S c) := H.1.ct hF
  have e3 : cby S'.2 = cby S.2 := cby_fr (hc 116 (by unfold lvk; omega)) (hc 97 (by unfold lvk; omega)) (hc 102 (by unfold lvk; omega))
  unfold AK at H ⊢
  rw [e1, e2, e3, hc 108 (by unfold lvk; omega), hc 109 (by unfold lvk; omega), hc 110 (by unfold lvk; omega), hc 111 (by unfold lvk; omega), hc 112 (by unfold lvk; omega), hc 113 (by unfold lvk; omega), hc 114 (by unfold lvk; omega), hc 115 (by unfold lvk; omega), hc 116 (by unfold lvk; omega), hc 118 (by unfold lvk; omega), hc 119 (by unfold lvk; omega), hc 120 (by unfold lvk; omega), hc 121 (by unfold lvk; omega), hc 122 (by unfold lvk; omega), hc 123 (by unfold lvk; omega)]
  exact ⟨H.1.fr hF, H.2⟩
theorem GK.fr (H : GK S) (hF : Fr S S') (hc : ∀ a, lvk a → S'.2 a = S.2 a) (hk : ∀ k, lvf k → S'.2 72 k = S.2 72 k) (hm : HM S.2 S'.2) : GK S' := by
  obtain ⟨h1, h2, h3, h4, h5, h6, h7, h8, h9, h10, h11⟩ := H
  unfold GK nClaims
  rw [hc 43 (by unfold lvk; omega), hk 52 (by unfold lvf; omega), hk 53 (by unfold lvf; omega), hk 102 (by unfold lvf; omega), hc 45 (by unfold lvk; omega), hc 46 (by unfold lvk; omega), hc 47 (by unfold lvk; omega), hc 48 (by unfold lvk; omega), hc 49 (by unfold lvk; omega), hc 111 (by unfold lvk; omega), hc 115 (by unfold lvk; omega), hc 117 (by unfold lvk; omega), hc 146 (by unfold lvk; omega), hc 147 (by unfold lvk; omega), hc 148 (by unfold lvk; omega), hc 149 (by unfold lvk; omega)]
  refine ⟨h1.fr (fun a q => hc a (by unfold lvk; omega)) hk hm, h2, h3, h4, fun c q => ((h5 c q).fr hF hc).1, fun c e q1 q2 q => ?_, h7, h8, h9, h10, h11⟩
  obtain ⟨-, a1⟩ := (h5 c q1).fr hF hc
  obtain ⟨-, b1⟩ := (h5 e q2).fr hF hc
  rw [a1, b1] at q
  exact h6 c e q1 q2 q
end
