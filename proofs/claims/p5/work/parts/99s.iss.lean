/-! the state behind the constructors: all holds there -/
theorem ss_1 : ([(16, 400), (73, 400), (21, 16), (77, 16), (42, 200), (105, 80), (106, 80), (107, 80), (46, 10), (146, 10)].all fun q => (List.range q.2).all fun k => decide (SS.2 q.1 k = 0)) = true := by decide +kernel
theorem ss_2 : ([(114, 300), (118, 300), (119, 300), (120, 300), (121, 300), (122, 300), (123, 300)].all fun q => (List.range q.2).all fun k => decide (SS.2 q.1 k = 0)) = true := by decide +kernel
theorem ss_3 : ((List.range 3120).all fun k => decide (SS.2 55 k = 0)) = true := by decide +kernel
theorem ss_4 : ((List.range 3120).all fun k => decide (SS.2 133 k = 0)) = true := by decide +kernel
theorem ss_5 : ((List.range 520).all fun k => decide (SS.2 56 k = 0)) = true := by decide +kernel
theorem ss_6 : ((List.range 520).all fun k => decide (SS.2 134 k = 0)) = true := by decide +kernel
theorem ss_7 : ([(15, 0), (15, 1), (15, 2), (15, 4), (72, 1), (72, 2), (72, 3), (72, 4), (72, 5), (72, 36), (72, 40), (72, 52), (72, 53), (72, 70), (72, 79), (72, 85), (72, 86), (72, 87), (72, 92), (72, 93), (72, 102), (72, 106), (17, 1), (17, 5), (31, 4), (36, 1), (36, 7), (43, 1), (43, 3), (43, 4), (43, 9), (50, 3), (50, 4), (53, 0), (54, 1), (54, 7), (63, 2), (63, 10), (63, 11)].all fun q => decide (SS.2 q.1 q.2 = 0)) = true := by decide +kernel
theorem al_z {h : Nat → Nat → Int} {l : List (Nat × Nat)} (H : (l.all fun q => (List.range q.2).all fun k => decide (h q.1 k = 0)) = true) {a n : Nat} (ha : (a, n) ∈ l) {k : Nat} (hk : k < n) : h a k = 0 := of_decide_eq_true (List.all_eq_true.mp (List.all_eq_true.mp H (a, n) ha) k (List.mem_range.mpr hk))
theorem al_r {h : Nat → Nat → Int} {a n : Nat} (H : ((List.range n).all fun k => decide (h a k = 0)) = true) {k : Nat} (hk : k < n) : h a k = 0 := of_decide_eq_true (List.all_eq_true.mp H k (List.mem_range.mpr hk))
theorem al_7 {h : Nat → Nat → Int} {l : List (Nat × Nat)} (H : (l.all fun q => decide (h q.1 q.2 = 0)) = true) {a k : Nat} (ha : (a, k) ∈ l) : h a k = 0 := of_decide_eq_true (List.all_eq_true.mp H (a, k) ha)
theorem ssz {l : List (Nat × Nat)} (H : (l.all fun q => (List.range q.2).all fun k => decide (SS.2 q.1 k = 0)) = true) {a n : Nat} (ha : (a, n) ∈ l) {k : Nat} (hk : k < n) : SS.2 a k = 0 := al_z (h := SS.2) H ha hk
theorem ssr {a n : Nat} (H : ((List.range n).all fun k => decide (SS.2 a k = 0)) = true) {k : Nat} (hk : k < n) : SS.2 a k = 0 := al_r (h := SS.2) H hk
theorem ss7 {a k : Nat} (ha : (a, k) ∈ [(15, 0), (15, 1), (15, 2), (15, 4), (72, 1), (72, 2), (72, 3), (72, 4), (72, 5), (72, 36), (72, 40), (72, 52), (72, 53), (72, 70), (72, 79), (72, 85), (72, 86), (72, 87), (72, 92), (72, 93), (72, 102), (72, 106), (17, 1), (17, 5), (31, 4), (36, 1), (36, 7), (43, 1), (43, 3), (43, 4), (43, 9), (50, 3), (50, 4), (53, 0), (54, 1), (54, 7), (63, 2), (63, 10), (63, 11)]) : SS.2 a k = 0 := al_7 (h := SS.2) ss_7 ha
theorem s_now : SS.2 72 2 = 0 := ss7 (by decide)
theorem s_heads : SS.2 72 4 = 0 := ss7 (by decide)
theorem s_hands : SS.2 72 5 = 0 := ss7 (by decide)
theorem s_laws : SS.2 72 36 = 0 := ss7 (by decide)
theorem s_auth : SS.2 72 40 = 0 := ss7 (by decide)
theorem s_claims : SS.2 72 52 = 0 := ss7 (by decide)
theorem s_paid : SS.2 72 53 = 0 := ss7 (by decide)
theorem s_cons : SS.2 72 70 = 0 := ss7 (by decide)
theorem s_items : SS.2 72 79 = 0 := ss7 (by decide)
theorem s_offers : SS.2 72 87 = 0 := ss7 (by decide)
theorem s_bids : SS.2 72 92 = 0 := ss7 (by decide)
theorem s_loans : SS.2 72 93 = 0 := ss7 (by decide)
theorem s_finds : SS.2 72 102 = 0 := ss7 (by decide)
theorem s_taped : SS.2 72 1 = 0 := ss7 (by decide)
theorem s_closed : SS.2 72 106 = 0 := ss7 (by decide)
theorem s_chest : SS.2 72 3 = 0 := ss7 (by decide)
theorem s_nC : nClaims SS.2 = 0 := by
  unfold nClaims
  rw [s_claims]
  rfl
theorem inv_SS : Inv SS := by
  refine ⟨by rw [SS_cells]; decide, ?_, ?_, ?_, ?_, ?_, ?_, ?_, ?_, ?_, ?_, ?_⟩
  · unfold GT
    rw [s_now, show SS.2 15 0 = 0 from ss7 (by decide)]
    decide
  · unfold GC
    rw [s_chest, show SS.2 15 1 = 0 from ss7 (by decide)]
    decide
  · unfold GX
    rw [s_closed, show SS.2 15 2 = 0 from ss7 (by decide)]
    decide
  · unfold GB
    rw [s_taped, show SS.2 15 4 = 0 from ss7 (by decide)]
    exact ⟨rfl, by decide, by decide, fun k hk => by rw [ssz ss_1 (a := 16) (n := 400) (by decide) hk, ssz ss_1 (a := 73) (n := 400) (by decide) hk]⟩
  · unfold GP RP
    rw [s_heads, s_hands, show SS.2 17 1 = 0 from ss7 (by decide), show SS.2 17 5 = 0 from ss7 (by decide)]
    exact ⟨⟨by decide, by decide, fun i hi => by omega, fun i hi => by omega⟩, rfl, rfl, fun i hi => by omega, fun i hi => by omega, fun i hi => by rw [ssz ss_1 (a := 21) (n := 16) (by decide) hi, ssz ss_1 (a := 77) (n := 16) (by decide) hi]⟩
  · unfold GL
    rw [s_laws, show SS.2 31 4 = 0 from ss7 (by decide)]
    exact ⟨rfl, by decide, by decide, fun i hi => by omega⟩
  · unfold GV RV
    rw [s_auth, s_cons, show SS.2 36 1 = 0 from ss7 (by decide), show SS.2 36 7 = 0 from ss7 (by decide)]
    refine ⟨⟨by decide, fun v hv => by omega, fun v _ hv => ⟨ssz ss_1 (a := 105) (n := 80) (by decide) hv, ssz ss_1 (a := 106) (n := 80) (by decide) hv, ssz ss_1 (a := 107) (n := 80) (by decide) hv⟩, by decide, fun k hk => by omega⟩, rfl, rfl, fun v hv => by omega, fun v w hv => by omega, fun k hk => by omega, fun k y hk hy => ?_⟩
    rw [ssz ss_1 (a := 42) (n := 200) (by decide) (show k * 10 + y < 200 by omega)]
    unfold pct
    rw [s_nC]
    rfl
  · unfold GK RK
    rw [s_claims, s_paid, s_finds, s_nC, show SS.2 43 1 = 0 from ss7 (by decide), show SS.2 43 3 = 0 from ss7 (by decide), show SS.2 43 9 = 0 from ss7 (by decide), show SS.2 43 4 = 0 from ss7 (by decide)]
    refine ⟨⟨by decide, by decide, by decide, fun c hc => by omega, fun c _ hc => ⟨ssz ss_2 (a := 114) (n := 300) (by decide) hc, ssz ss_2 (a := 118) (n := 300) (by decide) hc, ssz ss_2 (a := 119) (n := 300) (by decide) hc, ssz ss_2 (a := 120) (n := 300) (by decide) hc, ssz ss_2 (a := 121) (n := 300) (by decide) hc, ssz ss_2 (a := 122) (n := 300) (by decide) hc, ssz ss_2 (a := 123) (n := 300) (by decide) hc⟩, fun f hf => by omega⟩, rfl, rfl, rfl, fun c hc => by omega, fun c e hc => by omega, fun i hi => by omega, fun c hc => by omega, rfl, fun y hy => ?_, fun f hf => by omega⟩
    rw [ssz ss_1 (a := 46) (n := 10) (by decide) hy, ssz ss_1 (a := 146) (n := 10) (by decide) hy]
    decide
  · unfold GU
    rw [s_items, show SS.2 50 4 = 0 from ss7 (by decide), show SS.2 50 3 = 0 from ss7 (by decide)]
    refine ⟨by decide, rfl, fun k hk => by omega, fun k hk => ?_, by decide, fun k hk => by omega⟩
    have : k = 0 := by omega
    subst this
    rw [show SS.2 53 0 = 0 from ss7 (by decide)]
    rfl
  · unfold GW
    rw [s_offers, show SS.2 54 1 = 0 from ss7 (by decide), show SS.2 72 85 = 0 from ss7 (by decide), show SS.2 54 7 = 0 from ss7 (by decide)]
    refine ⟨fun i hi => ?_, rfl, fun i hi => ?_, by decide, rfl, fun o ho => by omega⟩
    · rw [ssr ss_3 hi, ssr ss_4 hi]
      decide
    · rw [ssr ss_5 hi, ssr ss_6 hi]
  · unfold GN
    rw [s_bids, s_loans, show SS.2 63 2 = 0 from ss7 (by decide), show SS.2 63 10 = 0 from ss7 (by decide), show SS.2 63 11 = 0 from ss7 (by decide), show SS.2 72 86 = 0 from ss7 (by decide)]
    exact ⟨by decide, rfl, fun b hb => by omega, by decide, rfl, rfl, fun i hi => by omega⟩
