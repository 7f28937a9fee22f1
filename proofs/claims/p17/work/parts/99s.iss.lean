section
-- 99s.iss
/-! the state behind the constructors: all holds there -/
/-- an entry that isn't 0, if there is one: a closed number that nothing is known of, so what is shown at it holds at each -/
noncomputable def ep (f : Nat → Int) : Nat := Classical.epsilon fun k => f k ≠ 0
theorem ep_z {f : Nat → Int} (h : f (ep f) = 0) (k : Nat) : f k = 0 := Classical.byContradiction fun hn => Classical.epsilon_spec (p := fun k => f k ≠ 0) ⟨k, hn⟩ h
theorem ss_1 : ([(16, 400), (73, 400), (21, 16), (77, 16), (42, 200), (105, 80), (106, 80), (107, 80), (46, 10), (146, 10)].all fun q => decide (SS.2 q.1 (ep (SS.2 q.1)) = 0)) = true := by decide +kernel
theorem ss_2 : ([(114, 300), (118, 300), (119, 300), (120, 300), (121, 300), (122, 300), (123, 300)].all fun q => decide (SS.2 q.1 (ep (SS.2 q.1)) = 0)) = true := by decide +kernel
theorem ss_3 : SS.2 55 (ep (SS.2 55)) = 0 := by decide +kernel
theorem ss_4 : SS.2 133 (ep (SS.2 133)) = 0 := by decide +kernel
theorem ss_5 : SS.2 56 (ep (SS.2 56)) = 0 := by decide +kernel
theorem ss_6 : SS.2 134 (ep (SS.2 134)) = 0 := by decide +kernel
theorem ss_7 : ([(15, 0), (15, 1), (15, 2), (15, 4), (72, 1), (72, 2), (72, 3), (72, 4), (72, 5), (72, 36), (72, 40), (72, 52), (72, 53), (72, 70), (72, 79), (72, 85), (72, 86), (72, 87), (72, 92), (72, 93), (72, 102), (72, 106), (17, 1), (17, 5), (31, 4), (36, 1), (36, 7), (43, 1), (43, 3), (43, 4), (43, 9), (50, 3), (50, 4), (53, 0), (54, 1), (54, 7), (63, 2), (63, 10), (63, 11)].all fun q => decide (SS.2 q.1 q.2 = 0)) = true := by decide +kernel
theorem al_z {h : Nat → Nat → Int} {l : List (Nat × Nat)} (H : (l.all fun q => decide (h q.1 (ep (h q.1)) = 0)) = true) {a n : Nat} (ha : (a, n) ∈ l) {k : Nat} (_ : k < n) : h a k = 0 := ep_z (of_decide_eq_true (List.all_eq_true.mp H (a, n) ha)) k
theorem al_7 {h : Nat → Nat → Int} {l : List (Nat × Nat)} (H : (l.all fun q => decide (h q.1 q.2 = 0)) = true) {a k : Nat} (ha : (a, k) ∈ l) : h a k = 0 := of_decide_eq_true (List.all_eq_true.mp H (a, k) ha)
theorem ssz {l : List (Nat × Nat)} (H : (l.all fun q => decide (SS.2 q.1 (ep (SS.2 q.1)) = 0)) = true) {a n : Nat} (ha : (a, n) ∈ l) {k : Nat} (hk : k < n) : SS.2 a k = 0 := al_z (h := SS.2) H ha hk
theorem ssr {a n : Nat} (H : SS.2 a (ep (SS.2 a)) = 0) {k : Nat} (_ : k < n) : SS.2 a k = 0 := ep_z (f := SS.2 a) H k
theorem ss7 {a k : Nat} (ha : (a, k) ∈ [(15, 0), (15, 1), (15, 2), (15, 4), (72, 1), (72, 2), (72, 3), (72, 4), (72, 5), (72, 36), (72, 40), (72, 52), (72, 53), (72, 70), (72, 79), (72, 85), (72, 86), (72, 87), (72, 92), (72, 93), (72, 102), (72, 106), (17, 1), (17, 5), (31, 4), (36, 1), (36, 7), (43, 1), (43, 3), (43, 4), (43, 9), (50, 3), (50, 4), (53, 0), (54, 1), (54, 7), (63, 2), (63, 10), (63, 11)]) : SS.2 a k = 0 := al_7 (h := SS.2) ss_7 ha
theorem s_now : SS.2 72 2 = 0 := ss7 (by decide)
theorem s_heads : SS.2 72 4 = 0 := ss7 (by decide)
theorem s_hands : SS.2 72 5 = 0 := ss7 (by decide)
theorem s_laws : SS.2 72 36 = 0 := ss7 (by decide)
theorem s_auth : SS.2 72 40 = 0 := ss7 (by decide)
theorem s_claims : SS.2 72 52 = 0 := ss7 (by decide)
theorem s_paid : SS.2 72 53 = 0 := ss7 (by decide)
theorem s_cons : SS.2 72 70 = 0 := ss7 (by decide)
theorem s_items : SS.2 72 79 = 0 := ss7 (by decide)
theorem s_offers : SS.2 72 87 = 0 := ss7 (by decide)
theorem s_bids : SS.2 72 92 = 0 := ss7 (by decide)
theorem s_loans : SS.2 72 93 = 0 := ss7 (by decide)
theorem s_finds : SS.2 72 102 = 0 := ss7 (by decide)
theorem s_taped : SS.2 72 1 = 0 := ss7 (by decide)
theorem s_closed : SS.2 72 106 = 0 := ss7 (by decide)
theorem s_chest : SS.2 72 3 = 0 := ss7 (by decide)
theorem s_nC : nClaims SS.2 = 0 := by
  unfold nClaims
  rw [s_claims]
  rfl
theorem inv_SS : Inv SS := by
  refine ⟨by rw [SS_cells]; decide, ?_, ?_, ?_, ?_, ?_, ?_, ?_, ?_, ?_, ?_, ?_⟩
  · unfold GT
    rw [s_now, show SS.2 15 0 = 0 from ss7 (by decide)]
    decide
  · unfold GC
    rw [s_chest, show SS.2 15 1 = 0 from ss7 (by decide)]
    decide
  · unfold GX
    rw [s_closed, show SS.2 15 2 = 0 from ss7 (by decide)]
    decide
  · unfold GB
    rw [s_taped, show SS.2 15 4 = 0 from ss7 (by decide)]
    exact ⟨rfl, by decide, by decide, fun k hk => by rw [ssz ss_1 (a := 16) (n := 400) (by decide) hk, ssz ss_1 (a := 73) (n := 400) (by decide) hk]⟩
  · unfold GP RP
    rw [s_heads, s_hands, show SS.2 17 1 = 0 from ss7 (by decide), show SS.2 17 5 = 0 from ss7 (by decide)]
    exact ⟨⟨by decide, by decide, fun i hi => by omega, fun i hi => by omega⟩, rfl, rfl, fun i hi => by omega, fun i hi => by omega, fun i hi => by rw [ssz ss_1 (a := 21) (n := 16) (by decide) hi, ssz ss_1 (a := 77) (n := 16) (by decide) hi]⟩
  · unfold GL
    rw [s_laws, show SS.2 31 4 = 0 from ss7 (by decide)]
    exact ⟨rfl, by decide, by decide, fun i hi => by omega⟩
  · unfold GV RV
    rw [s_auth, s_cons, show SS.2 36 1 = 0 from ss7 (by decide), show SS.2 36 7 = 0 from ss7 (by decide)]
    refine ⟨⟨by decide, fun v hv => by omega, fun v _ hv => ⟨ssz ss_1 (a := 105) (n := 80) (by decide) hv, ssz ss_1 (a := 106) (n := 80) (by decide) hv, ssz ss_1 (a := 107) (n := 80) (by decide) hv⟩, by decide, fun k hk => by omega⟩, rfl, rfl, fun v hv => by omega, fun v w hv => by omega, fun k hk => by omega, fun k y hk hy => ?_⟩
    rw [ssz ss_1 (a := 42) (n := 200) (by decide) (show k * 10 + y < 200 by omega)]
    unfold pct
    rw [s_nC]
    rfl
  · unfold GK RK
    rw [s_claims, s_paid, s_finds, s_nC, show SS.2 43 1 = 0 from ss7 (by decide), show SS.2 43 3 = 0 from ss7 (by decide), show SS.2 43 9 = 0 from ss7 (by decide), show SS.2 43 4 = 0 from ss7 (by decide)]
    refine ⟨⟨by decide, by decide, by decide, fun c hc => by omega, fun c _ hc => ⟨ssz ss_2 (a := 114) (n := 300) (by decide) hc, ssz ss_2 (a := 118) (n := 300) (by decide) hc, ssz ss_2 (a := 119) (n := 300) (by decide) hc, ssz ss_2 (a := 120) (n := 300) (by decide) hc, ssz ss_2 (a := 121) (n := 300) (by decide) hc, ssz ss_2 (a := 122) (n := 300) (by decide) hc, ssz ss_2 (a := 123) (n := 300) (by decide) hc⟩, fun f hf => by omega⟩, rfl, rfl, rfl, fun c hc => by omega, fun c e hc => by omega, fun i hi => by omega, fun c hc => by omega, rfl, fun y hy => ?_, fun f hf => by omega⟩
    rw [ssz ss_1 (a := 46) (n := 10) (by decide) hy, ssz ss_1 (a := 146) (n := 10) (by decide) hy]
    decide
  · unfold GU
    rw [s_items, show SS.2 50 4 = 0 from ss7 (by decide), show SS.2 50 3 = 0 from ss7 (by decide)]
    refine ⟨by decide, rfl, fun k hk => by omega, fun k hk => ?_, by decide, fun k hk => by omega⟩
    have : k = 0 := by omega
    subst this
    rw [show SS.2 53 0 = 0 from ss7 (by decide)]
    rfl
  · unfold GW
    rw [s_offers, show SS.2 54 1 = 0 from ss7 (by decide), show SS.2 72 85 = 0 from ss7 (by decide), show SS.2 54 7 = 0 from ss7 (by decide)]
    refine ⟨fun i hi => ?_, rfl, fun i hi => ?_, by decide, rfl, fun o ho => by omega⟩
    · rw [ssr ss_3 hi, ssr ss_4 hi]
      decide
    · rw [ssr ss_5 hi, ssr ss_6 hi]
  · unfold GN
    rw [s_bids, s_loans, show SS.2 63 2 = 0 from ss7 (by decide), show SS.2 63 10 = 0 from ss7 (by decide), show SS.2 63 11 = 0 from ss7 (by decide), show SS.2 72 86 = 0 from ss7 (by decide)]
    exact ⟨by decide, rfl, fun b hb => by omega, by decide, rfl, rfl, fun i hi => by omega⟩
end
section
-- 99t.loop
/-! the law's loop: each of its cases, printed by wip/p/gen/mklw.py -/
theorem wi1 {i : Nat} (h : i ≤ 5000) : w32 ((i : Int) + 1) = ((i + 1 : Nat) : Int) := by
  rw [w32e (by omega) (by omega)]
  rfl
theorem wi2 {i : Nat} (h : i ≤ 5000) : w32 ((i : Int) + 2) = ((i + 2 : Nat) : Int) := by
  rw [w32e (by omega) (by omega)]
  rfl
theorem wi3 {i : Nat} (h : i ≤ 5000) : w32 ((i : Int) + 3) = ((i + 3 : Nat) : Int) := by
  rw [w32e (by omega) (by omega)]
  rfl
theorem wi4 {i : Nat} (h : i ≤ 5000) : w32 ((i : Int) + 4) = ((i + 4 : Nat) : Int) := by
  rw [w32e (by omega) (by omega)]
  rfl
theorem wi5 {i : Nat} (h : i ≤ 5000) : w32 ((i : Int) + 5) = ((i + 5 : Nat) : Int) := by
  rw [w32e (by omega) (by omega)]
  rfl
theorem wi6 {i : Nat} (h : i ≤ 5000) : w32 ((i : Int) + 6) = ((i + 6 : Nat) : Int) := by
  rw [w32e (by omega) (by omega)]
  rfl
theorem wi7 {i : Nat} (h : i ≤ 5000) : w32 ((i : Int) + 7) = ((i + 7 : Nat) : Int) := by
  rw [w32e (by omega) (by omega)]
  rfl
noncomputable def LwS (L : Nat) (xs : Nat → Int) (i : Nat) (X : Rs) (S : AH) : Prop := ∃ S', X = LQ (WK L xs) (ev (WK L xs) 200) 0 18 [some (vr 1), some (vr 15), some (vr 72), some (vi ((i + 7 : Nat) : Int))] [] S' ∧ Inv S' ∧ Gw S S'
section
variable {L : Nat} {xs : Nat → Int} {S : AH}
theorem lw_c0 (H : Inv S) {i : Nat} (hi : i + 7 ≤ L) (hL : L ≤ 3584) (hx : ∀ k, r32 (xs k)) : LwS L xs i (LQ (WK L xs) (ev (WK L xs) 200) 0 252 [some (vr 1), some (vr 15), some (vr 72), some (vi (i : Int))] [] S) S := by
  have hi5 : i ≤ 5000 := by omega
  have q1 : (0 : Int) ≤ ((i + 1 : Nat) : Int) ∧ ((i + 1 : Nat) : Int) < (L : Int) := by omega
  obtain ⟨r, A, B, a1, a2, a3, a4⟩ := o_now (L := L) (xs := xs) H (xs (i + 1))
  refine ⟨B, ?_, a3, a4⟩
  rw [q_0_252]
  simp only [wi1 hi5, if_pos q1, Int.toNat_natCast]
  rw [a1, bR, a2, bR, q_0_2042, wi7 hi5]
theorem lw_c1 (H : Inv S) {i : Nat} (hi : i + 7 ≤ L) (hL : L ≤ 3584) (hx : ∀ k, r32 (xs k)) : LwS L xs i (LQ (WK L xs) (ev (WK L xs) 200) 0 275 [some (vr 1), some (vr 15), some (vr 72), some (vi (i : Int))] [] S) S := by
  have hi5 : i ≤ 5000 := by omega
  have q1 : (0 : Int) ≤ ((i + 1 : Nat) : Int) ∧ ((i + 1 : Nat) : Int) < (L : Int) := by omega
  obtain ⟨r, A, B, a1, a2, a3, a4⟩ := o_head (L := L) (xs := xs) H (xs (i + 1))
  refine ⟨B, ?_, a3, a4⟩
  rw [q_0_275]
  simp only [wi1 hi5, if_pos q1, Int.toNat_natCast]
  rw [a1, bR, a2, bR, q_0_2042, wi7 hi5]
theorem lw_c2 (H : Inv S) {i : Nat} (hi : i + 7 ≤ L) (hL : L ≤ 3584) (hx : ∀ k, r32 (xs k)) : LwS L xs i (LQ (WK L xs) (ev (WK L xs) 200) 0 298 [some (vr 1), some (vr 15), some (vr 72), some (vi (i : Int))] [] S) S := by
  have hi5 : i ≤ 5000 := by omega
  have q1 : (0 : Int) ≤ ((i + 1 : Nat) : Int) ∧ ((i + 1 : Nat) : Int) < (L : Int) := by omega
  have q2 : (0 : Int) ≤ ((i + 2 : Nat) : Int) ∧ ((i + 2 : Nat) : Int) < (L : Int) := by omega
  obtain ⟨r, A, B, a1, a2, a3, a4⟩ := o_under (L := L) (xs := xs) H (xs (i + 1)) (xs (i + 2))
  refine ⟨B, ?_, a3, a4⟩
  rw [q_0_298]
  simp only [wi1 hi5, wi2 hi5, if_pos q1, if_pos q2, Int.toNat_natCast]
  rw [a1, bR, a2, bR, q_0_2042, wi7 hi5]
theorem lw_c3 (H : Inv S) {i : Nat} (hi : i + 7 ≤ L) (hL : L ≤ 3584) (hx : ∀ k, r32 (xs k)) : LwS L xs i (LQ (WK L xs) (ev (WK L xs) 200) 0 331 [some (vr 1), some (vr 15), some (vr 72), some (vi (i : Int))] [] S) S := by
  have hi5 : i ≤ 5000 := by omega
  have q1 : (0 : Int) ≤ ((i + 1 : Nat) : Int) ∧ ((i + 1 : Nat) : Int) < (L : Int) := by omega
  have q2 : (0 : Int) ≤ ((i + 2 : Nat) : Int) ∧ ((i + 2 : Nat) : Int) < (L : Int) := by omega
  obtain ⟨r, A, B, a1, a2, a3, a4⟩ := o_hand (L := L) (xs := xs) H (xs (i + 1)) (xs (i + 2))
  refine ⟨B, ?_, a3, a4⟩
  rw [q_0_331]
  simp only [wi1 hi5, wi2 hi5, if_pos q1, if_pos q2, Int.toNat_natCast]
  rw [a1, bR, a2, bR, q_0_2042, wi7 hi5]
theorem lw_c4 (H : Inv S) {i : Nat} (hi : i + 7 ≤ L) (hL : L ≤ 3584) (hx : ∀ k, r32 (xs k)) : LwS L xs i (LQ (WK L xs) (ev (WK L xs) 200) 0 364 [some (vr 1), some (vr 15), some (vr 72), some (vi (i : Int))] [] S) S := by
  have hi5 : i ≤ 5000 := by omega
  have q1 : (0 : Int) ≤ ((i + 1 : Nat) : Int) ∧ ((i + 1 : Nat) : Int) < (L : Int) := by omega
  have q2 : (0 : Int) ≤ ((i + 2 : Nat) : Int) ∧ ((i + 2 : Nat) : Int) < (L : Int) := by omega
  have q3 : (0 : Int) ≤ ((i + 3 : Nat) : Int) ∧ ((i + 3 : Nat) : Int) < (L : Int) := by omega
  have q4 : (0 : Int) ≤ ((i + 4 : Nat) : Int) ∧ ((i + 4 : Nat) : Int) < (L : Int) := by omega
  have q5 : (0 : Int) ≤ ((i + 5 : Nat) : Int) ∧ ((i + 5 : Nat) : Int) < (L : Int) := by omega
  obtain ⟨r, A, B, a1, a2, a3, a4⟩ := o_feed (L := L) (xs := xs) H (xs (i + 1)) (xs (i + 2)) (xs (i + 3)) (xs (i + 4)) (xs (i + 5))
  refine ⟨B, ?_, a3, a4⟩
  rw [q_0_364]
  simp only [wi1 hi5, wi2 hi5, wi3 hi5, wi4 hi5, wi5 hi5, if_pos q1, if_pos q2, if_pos q3, if_pos q4, if_pos q5, Int.toNat_natCast]
  rw [a1, bR, a2, bR, q_0_2042, wi7 hi5]
theorem lw_c5 (H : Inv S) {i : Nat} (hi : i + 7 ≤ L) (hL : L ≤ 3584) (hx : ∀ k, r32 (xs k)) : LwS L xs i (LQ (WK L xs) (ev (WK L xs) 200) 0 427 [some (vr 1), some (vr 15), some (vr 72), some (vi (i : Int))] [] S) S := by
  have hi5 : i ≤ 5000 := by omega
  have q1 : (0 : Int) ≤ ((i + 1 : Nat) : Int) ∧ ((i + 1 : Nat) : Int) < (L : Int) := by omega
  have q2 : (0 : Int) ≤ ((i + 2 : Nat) : Int) ∧ ((i + 2 : Nat) : Int) < (L : Int) := by omega
  have q3 : (0 : Int) ≤ ((i + 3 : Nat) : Int) ∧ ((i + 3 : Nat) : Int) < (L : Int) := by omega
  obtain ⟨r, A, B, a1, a2, a3, a4⟩ := o_law (L := L) (xs := xs) H (xs (i + 1)) (xs (i + 2)) (xs (i + 3))
  refine ⟨B, ?_, a3, a4⟩
  rw [q_0_427]
  simp only [wi1 hi5, wi2 hi5, wi3 hi5, if_pos q1, if_pos q2, if_pos q3, Int.toNat_natCast]
  rw [a1, bR, a2, bR, q_0_2042, wi7 hi5]
theorem lw_c6 (H : Inv S) {i : Nat} (hi : i + 7 ≤ L) (hL : L ≤ 3584) (hx : ∀ k, r32 (xs k)) : LwS L xs i (LQ (WK L xs) (ev (WK L xs) 200) 0 470 [some (vr 1), some (vr 15), some (vr 72), some (vi (i : Int))] [] S) S := by
  have hi5 : i ≤ 5000 := by omega
  have q1 : (0 : Int) ≤ ((i + 1 : Nat) : Int) ∧ ((i + 1 : Nat) : Int) < (L : Int) := by omega
  have q2 : (0 : Int) ≤ ((i + 2 : Nat) : Int) ∧ ((i + 2 : Nat) : Int) < (L : Int) := by omega
  obtain ⟨r, A, B, a1, a2, a3, a4⟩ := o_counts (L := L) (xs := xs) H (xs (i + 1)) (xs (i + 2))
  refine ⟨B, ?_, a3, a4⟩
  rw [q_0_470]
  simp only [wi1 hi5, wi2 hi5, if_pos q1, if_pos q2, Int.toNat_natCast]
  rw [a1, bR, a2, bR, q_0_2042, wi7 hi5]
theorem lw_c7 (H : Inv S) {i : Nat} (hi : i + 7 ≤ L) (hL : L ≤ 3584) (hx : ∀ k, r32 (xs k)) : LwS L xs i (LQ (WK L xs) (ev (WK L xs) 200) 0 503 [some (vr 1), some (vr 15), some (vr 72), some (vi (i : Int))] [] S) S := by
  have hi5 : i ≤ 5000 := by omega
  have q1 : (0 : Int) ≤ ((i + 1 : Nat) : Int) ∧ ((i + 1 : Nat) : Int) < (L : Int) := by omega
  have q2 : (0 : Int) ≤ ((i + 2 : Nat) : Int) ∧ ((i + 2 : Nat) : Int) < (L : Int) := by omega
  obtain ⟨r, A, B, a1, a2, a3, a4⟩ := o_number (L := L) (xs := xs) H (xs (i + 1)) (xs (i + 2))
  refine ⟨B, ?_, a3, a4⟩
  rw [q_0_503]
  simp only [wi1 hi5, wi2 hi5, if_pos q1, if_pos q2, Int.toNat_natCast]
  rw [a1, bR, a2, bR, q_0_2042, wi7 hi5]
theorem lw_c8 (H : Inv S) {i : Nat} (hi : i + 7 ≤ L) (hL : L ≤ 3584) (hx : ∀ k, r32 (xs k)) : LwS L xs i (LQ (WK L xs) (ev (WK L xs) 200) 0 536 [some (vr 1), some (vr 15), some (vr 72), some (vi (i : Int))] [] S) S := by
  have hi5 : i ≤ 5000 := by omega
  have q1 : (0 : Int) ≤ ((i + 1 : Nat) : Int) ∧ ((i + 1 : Nat) : Int) < (L : Int) := by omega
  have q2 : (0 : Int) ≤ ((i + 2 : Nat) : Int) ∧ ((i + 2 : Nat) : Int) < (L : Int) := by omega
  have q3 : (0 : Int) ≤ ((i + 3 : Nat) : Int) ∧ ((i + 3 : Nat) : Int) < (L : Int) := by omega
  have q4 : (0 : Int) ≤ ((i + 4 : Nat) : Int) ∧ ((i + 4 : Nat) : Int) < (L : Int) := by omega
  have q5 : (0 : Int) ≤ ((i + 5 : Nat) : Int) ∧ ((i + 5 : Nat) : Int) < (L : Int) := by omega
  obtain ⟨r, A, B, a1, a2, a3, a4⟩ := o_vote (L := L) (xs := xs) H (xs (i + 1)) (xs (i + 2)) (xs (i + 3)) (xs (i + 4)) (xs (i + 5))
  refine ⟨B, ?_, a3, a4⟩
  rw [q_0_536]
  simp only [wi1 hi5, wi2 hi5, wi3 hi5, wi4 hi5, wi5 hi5, if_pos q1, if_pos q2, if_pos q3, if_pos q4, if_pos q5, Int.toNat_natCast]
  rw [a1, bR, a2, bR, q_0_2042, wi7 hi5]
theorem lw_c9 (H : Inv S) {i : Nat} (hi : i + 7 ≤ L) (hL : L ≤ 3584) (hx : ∀ k, r32 (xs k)) : LwS L xs i (LQ (WK L xs) (ev (WK L xs) 200) 0 599 [some (vr 1), some (vr 15), some (vr 72), some (vi (i : Int))] [] S) S := by
  have hi5 : i ≤ 5000 := by omega
  have q1 : (0 : Int) ≤ ((i + 1 : Nat) : Int) ∧ ((i + 1 : Nat) : Int) < (L : Int) := by omega
  have q2 : (0 : Int) ≤ ((i + 2 : Nat) : Int) ∧ ((i + 2 : Nat) : Int) < (L : Int) := by omega
  have q3 : (0 : Int) ≤ ((i + 3 : Nat) : Int) ∧ ((i + 3 : Nat) : Int) < (L : Int) := by omega
  obtain ⟨r, A, B, a1, a2, a3, a4⟩ := o_ceiling (L := L) (xs := xs) H (xs (i + 1)) (xs (i + 2)) (xs (i + 3))
  refine ⟨B, ?_, a3, a4⟩
  rw [q_0_599]
  simp only [wi1 hi5, wi2 hi5, wi3 hi5, if_pos q1, if_pos q2, if_pos q3, Int.toNat_natCast]
  rw [a1, bR, a2, bR, q_0_2042, wi7 hi5]
theorem lw_c10 (H : Inv S) {i : Nat} (hi : i + 7 ≤ L) (hL : L ≤ 3584) (hx : ∀ k, r32 (xs k)) : LwS L xs i (LQ (WK L xs) (ev (WK L xs) 200) 0 642 [some (vr 1), some (vr 15), some (vr 72), some (vi (i : Int))] [] S) S := by
  have hi5 : i ≤ 5000 := by omega
  have q1 : (0 : Int) ≤ ((i + 1 : Nat) : Int) ∧ ((i + 1 : Nat) : Int) < (L : Int) := by omega
  have q2 : (0 : Int) ≤ ((i + 2 : Nat) : Int) ∧ ((i + 2 : Nat) : Int) < (L : Int) := by omega
  obtain ⟨r, A, B, a1, a2, a3, a4⟩ := o_advance (L := L) (xs := xs) H (xs (i + 1)) (xs (i + 2))
  refine ⟨B, ?_, a3, a4⟩
  rw [q_0_642]
  simp only [wi1 hi5, wi2 hi5, if_pos q1, if_pos q2, Int.toNat_natCast]
  rw [a1, bR, a2, bR, q_0_2042, wi7 hi5]
theorem lw_c11 (H : Inv S) {i : Nat} (hi : i + 7 ≤ L) (hL : L ≤ 3584) (hx : ∀ k, r32 (xs k)) : LwS L xs i (LQ (WK L xs) (ev (WK L xs) 200) 0 675 [some (vr 1), some (vr 15), some (vr 72), some (vi (i : Int))] [] S) S := by
  have hi5 : i ≤ 5000 := by omega
  have q1 : (0 : Int) ≤ ((i + 1 : Nat) : Int) ∧ ((i + 1 : Nat) : Int) < (L : Int) := by omega
  have q2 : (0 : Int) ≤ ((i + 2 : Nat) : Int) ∧ ((i + 2 : Nat) : Int) < (L : Int) := by omega
  obtain ⟨r, A, B, a1, a2, a3, a4⟩ := o_cover (L := L) (xs := xs) H (xs (i + 1)) (xs (i + 2))
  refine ⟨B, ?_, a3, a4⟩
  rw [q_0_675]
  simp only [wi1 hi5, wi2 hi5, if_pos q1, if_pos q2, Int.toNat_natCast]
  rw [a1, bR, a2, bR, q_0_2042, wi7 hi5]
theorem lw_c12 (H : Inv S) {i : Nat} (hi : i + 7 ≤ L) (hL : L ≤ 3584) (hx : ∀ k, r32 (xs k)) : LwS L xs i (LQ (WK L xs) (ev (WK L xs) 200) 0 708 [some (vr 1), some (vr 15), some (vr 72), some (vi (i : Int))] [] S) S := by
  have hi5 : i ≤ 5000 := by omega
  have q1 : (0 : Int) ≤ ((i + 1 : Nat) : Int) ∧ ((i + 1 : Nat) : Int) < (L : Int) := by omega
  obtain ⟨r, A, B, a1, a2, a3, a4⟩ := o_strike (L := L) (xs := xs) H (xs (i + 1))
  refine ⟨B, ?_, a3, a4⟩
  rw [q_0_708]
  simp only [wi1 hi5, if_pos q1, Int.toNat_natCast]
  rw [a1, bR, a2, bR, q_0_2042, wi7 hi5]
theorem lw_c13 (H : Inv S) {i : Nat} (hi : i + 7 ≤ L) (hL : L ≤ 3584) (hx : ∀ k, r32 (xs k)) : LwS L xs i (LQ (WK L xs) (ev (WK L xs) 200) 0 731 [some (vr 1), some (vr 15), some (vr 72), some (vi (i : Int))] [] S) S := by
  have hi5 : i ≤ 5000 := by omega
  have q1 : (0 : Int) ≤ ((i + 1 : Nat) : Int) ∧ ((i + 1 : Nat) : Int) < (L : Int) := by omega
  have q2 : (0 : Int) ≤ ((i + 2 : Nat) : Int) ∧ ((i + 2 : Nat) : Int) < (L : Int) := by omega
  have q3 : (0 : Int) ≤ ((i + 3 : Nat) : Int) ∧ ((i + 3 : Nat) : Int) < (L : Int) := by omega
  obtain ⟨r, A, B, a1, a2, a3, a4⟩ := o_move (L := L) (xs := xs) H (xs (i + 1)) (xs (i + 2)) (xs (i + 3))
  refine ⟨B, ?_, a3, a4⟩
  rw [q_0_731]
  simp only [wi1 hi5, wi2 hi5, wi3 hi5, if_pos q1, if_pos q2, if_pos q3, Int.toNat_natCast]
  rw [a1, bR, a2, bR, q_0_2042, wi7 hi5]
theorem lw_c14 (H : Inv S) {i : Nat} (hi : i + 7 ≤ L) (hL : L ≤ 3584) (hx : ∀ k, r32 (xs k)) : LwS L xs i (LQ (WK L xs) (ev (WK L xs) 200) 0 774 [some (vr 1), some (vr 15), some (vr 72), some (vi (i : Int))] [] S) S := by
  have hi5 : i ≤ 5000 := by omega
  have q1 : (0 : Int) ≤ ((i + 1 : Nat) : Int) ∧ ((i + 1 : Nat) : Int) < (L : Int) := by omega
  have q2 : (0 : Int) ≤ ((i + 2 : Nat) : Int) ∧ ((i + 2 : Nat) : Int) < (L : Int) := by omega
  have q3 : (0 : Int) ≤ ((i + 3 : Nat) : Int) ∧ ((i + 3 : Nat) : Int) < (L : Int) := by omega
  have q4 : (0 : Int) ≤ ((i + 4 : Nat) : Int) ∧ ((i + 4 : Nat) : Int) < (L : Int) := by omega
  obtain ⟨r, A, B, a1, a2, a3, a4⟩ := o_commit (L := L) (xs := xs) H (xs (i + 1)) (xs (i + 2)) (xs (i + 3)) (xs (i + 4))
  refine ⟨B, ?_, a3, a4⟩
  rw [q_0_774]
  simp only [wi1 hi5, wi2 hi5, wi3 hi5, wi4 hi5, if_pos q1, if_pos q2, if_pos q3, if_pos q4, Int.toNat_natCast]
  rw [a1, bR, a2, bR, q_0_2042, wi7 hi5]
theorem lw_c15 (H : Inv S) {i : Nat} (hi : i + 7 ≤ L) (hL : L ≤ 3584) (hx : ∀ k, r32 (xs k)) : LwS L xs i (LQ (WK L xs) (ev (WK L xs) 200) 0 827 [some (vr 1), some (vr 15), some (vr 72), some (vi (i : Int))] [] S) S := by
  have hi5 : i ≤ 5000 := by omega
  have q1 : (0 : Int) ≤ ((i + 1 : Nat) : Int) ∧ ((i + 1 : Nat) : Int) < (L : Int) := by omega
  have q2 : (0 : Int) ≤ ((i + 2 : Nat) : Int) ∧ ((i + 2 : Nat) : Int) < (L : Int) := by omega
  obtain ⟨r, A, B, a1, a2, a3, a4⟩ := o_left (L := L) (xs := xs) H (xs (i + 1)) (xs (i + 2))
  refine ⟨B, ?_, a3, a4⟩
  rw [q_0_827]
  simp only [wi1 hi5, wi2 hi5, if_pos q1, if_pos q2, Int.toNat_natCast]
  rw [a1, bR, a2, bR, if_pos (lc_eq.mpr rfl), q_0_2042, wi7 hi5]
theorem lw_c16 (H : Inv S) {i : Nat} (hi : i + 7 ≤ L) (hL : L ≤ 3584) (hx : ∀ k, r32 (xs k)) : LwS L xs i (LQ (WK L xs) (ev (WK L xs) 200) 0 861 [some (vr 1), some (vr 15), some (vr 72), some (vi (i : Int))] [] S) S := by
  have hi5 : i ≤ 5000 := by omega
  have q1 : (0 : Int) ≤ ((i + 1 : Nat) : Int) ∧ ((i + 1 : Nat) : Int) < (L : Int) := by omega
  have q2 : (0 : Int) ≤ ((i + 2 : Nat) : Int) ∧ ((i + 2 : Nat) : Int) < (L : Int) := by omega
  have q3 : (0 : Int) ≤ ((i + 3 : Nat) : Int) ∧ ((i + 3 : Nat) : Int) < (L : Int) := by omega
  have q4 : (0 : Int) ≤ ((i + 4 : Nat) : Int) ∧ ((i + 4 : Nat) : Int) < (L : Int) := by omega
  have q5 : (0 : Int) ≤ ((i + 5 : Nat) : Int) ∧ ((i + 5 : Nat) : Int) < (L : Int) := by omega
  have q6 : (0 : Int) ≤ ((i + 6 : Nat) : Int) ∧ ((i + 6 : Nat) : Int) < (L : Int) := by omega
  by_cases hz : xs (i + 6) = 0
  · obtain ⟨r, A, B, a1, a2, a3, a4⟩ := o_claim (L := L) (xs := xs) H (xs (i + 1)) (xs (i + 2)) (xs (i + 3)) (xs (i + 4)) (xs (i + 5)) 0 (Or.inl rfl)
    refine ⟨B, ?_, a3, a4⟩
    rw [q_0_861]
    simp only [wi1 hi5, wi2 hi5, wi3 hi5, wi4 hi5, wi5 hi5, wi6 hi5, if_pos q1, if_pos q2, if_pos q3, if_pos q4, if_pos q5, if_pos q6, Int.toNat_natCast]
    rw [if_pos hz, q_0_901]
    simp only [wi1 hi5, wi2 hi5, wi3 hi5, wi4 hi5, wi5 hi5, wi6 hi5, if_pos q1, if_pos q2, if_pos q3, if_pos q4, if_pos q5, if_pos q6, Int.toNat_natCast]
    rw [a1, bR, if_pos hz, a2, bR, q_0_2042, wi7 hi5]
  · obtain ⟨r, A, B, a1, a2, a3, a4⟩ := o_claim (L := L) (xs := xs) H (xs (i + 1)) (xs (i + 2)) (xs (i + 3)) (xs (i + 4)) (xs (i + 5)) 1 (Or.inr rfl)
    refine ⟨B, ?_, a3, a4⟩
    rw [q_0_861]
    simp only [wi1 hi5, wi2 hi5, wi3 hi5, wi4 hi5, wi5 hi5, wi6 hi5, if_pos q1, if_pos q2, if_pos q3, if_pos q4, if_pos q5, if_pos q6, Int.toNat_natCast]
    rw [if_neg hz, q_0_901]
    simp only [wi1 hi5, wi2 hi5, wi3 hi5, wi4 hi5, wi5 hi5, wi6 hi5, if_pos q1, if_pos q2, if_pos q3, if_pos q4, if_pos q5, if_pos q6, Int.toNat_natCast]
    rw [a1, bR, if_neg hz, a2, bR, q_0_2042, wi7 hi5]
theorem lw_c17 (H : Inv S) {i : Nat} (hi : i + 7 ≤ L) (hL : L ≤ 3584) (hx : ∀ k, r32 (xs k)) : LwS L xs i (LQ (WK L xs) (ev (WK L xs) 200) 0 952 [some (vr 1), some (vr 15), some (vr 72), some (vi (i : Int))] [] S) S := by
  have hi5 : i ≤ 5000 := by omega
  have q1 : (0 : Int) ≤ ((i + 1 : Nat) : Int) ∧ ((i + 1 : Nat) : Int) < (L : Int) := by omega
  have q2 : (0 : Int) ≤ ((i + 2 : Nat) : Int) ∧ ((i + 2 : Nat) : Int) < (L : Int) := by omega
  obtain ⟨r, A, B, a1, a2, a3, a4⟩ := o_sign (L := L) (xs := xs) H (xs (i + 1)) (xs (i + 2))
  refine ⟨B, ?_, a3, a4⟩
  rw [q_0_952]
  simp only [wi1 hi5, wi2 hi5, if_pos q1, if_pos q2, Int.toNat_natCast]
  rw [a1, bR, a2, bR, q_0_2042, wi7 hi5]
theorem lw_c18 (H : Inv S) {i : Nat} (hi : i + 7 ≤ L) (hL : L ≤ 3584) (hx : ∀ k, r32 (xs k)) : LwS L xs i (LQ (WK L xs) (ev (WK L xs) 200) 0 985 [some (vr 1), some (vr 15), some (vr 72), some (vi (i : Int))] [] S) S := by
  have hi5 : i ≤ 5000 := by omega
  have q1 : (0 : Int) ≤ ((i + 1 : Nat) : Int) ∧ ((i + 1 : Nat) : Int) < (L : Int) := by omega
  obtain ⟨r, A, B, a1, a2, a3, a4⟩ := o_may (L := L) (xs := xs) H (xs (i + 1))
  refine ⟨B, ?_, a3, a4⟩
  rw [q_0_985]
  simp only [wi1 hi5, if_pos q1, Int.toNat_natCast]
  rw [a1, bR, a2, bR, q_0_2042, wi7 hi5]
theorem lw_c19 (H : Inv S) {i : Nat} (hi : i + 7 ≤ L) (hL : L ≤ 3584) (hx : ∀ k, r32 (xs k)) : LwS L xs i (LQ (WK L xs) (ev (WK L xs) 200) 0 1008 [some (vr 1), some (vr 15), some (vr 72), some (vi (i : Int))] [] S) S := by
  have hi5 : i ≤ 5000 := by omega
  have q1 : (0 : Int) ≤ ((i + 1 : Nat) : Int) ∧ ((i + 1 : Nat) : Int) < (L : Int) := by omega
  obtain ⟨r, A, B, a1, a2, a3, a4⟩ := o_pay (L := L) (xs := xs) H (xs (i + 1))
  refine ⟨B, ?_, a3, a4⟩
  rw [q_0_1008]
  simp only [wi1 hi5, if_pos q1, Int.toNat_natCast]
  rw [a1, bR, a2, bR, q_0_2042, wi7 hi5]
theorem lw_c20 (H : Inv S) {i : Nat} (hi : i + 7 ≤ L) (hL : L ≤ 3584) (hx : ∀ k, r32 (xs k)) : LwS L xs i (LQ (WK L xs) (ev (WK L xs) 200) 0 1031 [some (vr 1), some (vr 15), some (vr 72), some (vi (i : Int))] [] S) S := by
  have hi5 : i ≤ 5000 := by omega
  have q1 : (0 : Int) ≤ ((i + 1 : Nat) : Int) ∧ ((i + 1 : Nat) : Int) < (L : Int) := by omega
  have q2 : (0 : Int) ≤ ((i + 2 : Nat) : Int) ∧ ((i + 2 : Nat) : Int) < (L : Int) := by omega
  have q3 : (0 : Int) ≤ ((i + 3 : Nat) : Int) ∧ ((i + 3 : Nat) : Int) < (L : Int) := by omega
  have q4 : (0 : Int) ≤ ((i + 4 : Nat) : Int) ∧ ((i + 4 : Nat) : Int) < (L : Int) := by omega
  by_cases hz : xs (i + 4) = 0
  · obtain ⟨r, A, B, a1, a2, a3, a4⟩ := o_ask (L := L) (xs := xs) H (xs (i + 1)) (xs (i + 2)) (xs (i + 3)) 0 (Or.inl rfl)
    refine ⟨B, ?_, a3, a4⟩
    rw [q_0_1031]
    simp only [wi1 hi5, wi2 hi5, wi3 hi5, wi4 hi5, if_pos q1, if_pos q2, if_pos q3, if_pos q4, Int.toNat_natCast]
    rw [if_pos hz, q_0_1060]
    simp only [wi1 hi5, wi2 hi5, wi3 hi5, wi4 hi5, if_pos q1, if_pos q2, if_pos q3, if_pos q4, Int.toNat_natCast]
    rw [a1, bR, if_pos hz, a2, bR, q_0_2042, wi7 hi5]
  · obtain ⟨r, A, B, a1, a2, a3, a4⟩ := o_ask (L := L) (xs := xs) H (xs (i + 1)) (xs (i + 2)) (xs (i + 3)) 1 (Or.inr rfl)
    refine ⟨B, ?_, a3, a4⟩
    rw [q_0_1031]
    simp only [wi1 hi5, wi2 hi5, wi3 hi5, wi4 hi5, if_pos q1, if_pos q2, if_pos q3, if_pos q4, Int.toNat_natCast]
    rw [if_neg hz, q_0_1060]
    simp only [wi1 hi5, wi2 hi5, wi3 hi5, wi4 hi5, if_pos q1, if_pos q2, if_pos q3, if_pos q4, Int.toNat_natCast]
    rw [a1, bR, if_neg hz, a2, bR, q_0_2042, wi7 hi5]
theorem lw_c21 (H : Inv S) {i : Nat} (hi : i + 7 ≤ L) (hL : L ≤ 3584) (hx : ∀ k, r32 (xs k)) : LwS L xs i (LQ (WK L xs) (ev (WK L xs) 200) 0 1100 [some (vr 1), some (vr 15), some (vr 72), some (vi (i : Int))] [] S) S := by
  have hi5 : i ≤ 5000 := by omega
  have q1 : (0 : Int) ≤ ((i + 1 : Nat) : Int) ∧ ((i + 1 : Nat) : Int) < (L : Int) := by omega
  obtain ⟨r, A, B, a1, a2, a3, a4⟩ := o_cut (L := L) (xs := xs) H (xs (i + 1))
  refine ⟨B, ?_, a3, a4⟩
  rw [q_0_1100]
  simp only [wi1 hi5, if_pos q1, Int.toNat_natCast]
  rw [a1, bR, a2, bR, q_0_2042, wi7 hi5]
theorem lw_c22 (H : Inv S) {i : Nat} (hi : i + 7 ≤ L) (hL : L ≤ 3584) (hx : ∀ k, r32 (xs k)) : LwS L xs i (LQ (WK L xs) (ev (WK L xs) 200) 0 1123 [some (vr 1), some (vr 15), some (vr 72), some (vi (i : Int))] [] S) S := by
  have hi5 : i ≤ 5000 := by omega
  have q1 : (0 : Int) ≤ ((i + 1 : Nat) : Int) ∧ ((i + 1 : Nat) : Int) < (L : Int) := by omega
  obtain ⟨r, A, B, a1, a2, a3, a4⟩ := o_more (L := L) (xs := xs) H (xs (i + 1))
  refine ⟨B, ?_, a3, a4⟩
  rw [q_0_1123]
  simp only [wi1 hi5, if_pos q1, Int.toNat_natCast]
  rw [a1, bR, a2, bR, q_0_2042, wi7 hi5]
theorem lw_c23 (H : Inv S) {i : Nat} (hi : i + 7 ≤ L) (hL : L ≤ 3584) (hx : ∀ k, r32 (xs k)) : LwS L xs i (LQ (WK L xs) (ev (WK L xs) 200) 0 1146 [some (vr 1), some (vr 15), some (vr 72), some (vi (i : Int))] [] S) S := by
  have hi5 : i ≤ 5000 := by omega
  have q1 : (0 : Int) ≤ ((i + 1 : Nat) : Int) ∧ ((i + 1 : Nat) : Int) < (L : Int) := by omega
  have q2 : (0 : Int) ≤ ((i + 2 : Nat) : Int) ∧ ((i + 2 : Nat) : Int) < (L : Int) := by omega
  obtain ⟨r, A, B, a1, a2, a3, a4⟩ := o_comes (L := L) (xs := xs) H (xs (i + 1)) (xs (i + 2))
  refine ⟨B, ?_, a3, a4⟩
  rw [q_0_1146]
  simp only [wi1 hi5, wi2 hi5, if_pos q1, if_pos q2, Int.toNat_natCast]
  rw [a1, bR, a2, bR, q_0_2042, wi7 hi5]
theorem lw_c24 (H : Inv S) {i : Nat} (hi : i + 7 ≤ L) (hL : L ≤ 3584) (hx : ∀ k, r32 (xs k)) : LwS L xs i (LQ (WK L xs) (ev (WK L xs) 200) 0 1179 [some (vr 1), some (vr 15), some (vr 72), some (vi (i : Int))] [] S) S := by
  have hi5 : i ≤ 5000 := by omega
  have q1 : (0 : Int) ≤ ((i + 1 : Nat) : Int) ∧ ((i + 1 : Nat) : Int) < (L : Int) := by omega
  have q2 : (0 : Int) ≤ ((i + 2 : Nat) : Int) ∧ ((i + 2 : Nat) : Int) < (L : Int) := by omega
  have q3 : (0 : Int) ≤ ((i + 3 : Nat) : Int) ∧ ((i + 3 : Nat) : Int) < (L : Int) := by omega
  obtain ⟨r, A, B, a1, a2, a3, a4⟩ := o_came (L := L) (xs := xs) H (xs (i + 1)) (xs (i + 2)) (xs (i + 3))
  refine ⟨B, ?_, a3, a4⟩
  rw [q_0_1179]
  simp only [wi1 hi5, wi2 hi5, wi3 hi5, if_pos q1, if_pos q2, if_pos q3, Int.toNat_natCast]
  rw [a1, bR, a2, bR, q_0_2042, wi7 hi5]
theorem lw_c25 (H : Inv S) {i : Nat} (hi : i + 7 ≤ L) (hL : L ≤ 3584) (hx : ∀ k, r32 (xs k)) : LwS L xs i (LQ (WK L xs) (ev (WK L xs) 200) 0 1222 [some (vr 1), some (vr 15), some (vr 72), some (vi (i : Int))] [] S) S := by
  have hi5 : i ≤ 5000 := by omega
  have q1 : (0 : Int) ≤ ((i + 1 : Nat) : Int) ∧ ((i + 1 : Nat) : Int) < (L : Int) := by omega
  have q2 : (0 : Int) ≤ ((i + 2 : Nat) : Int) ∧ ((i + 2 : Nat) : Int) < (L : Int) := by omega
  have q3 : (0 : Int) ≤ ((i + 3 : Nat) : Int) ∧ ((i + 3 : Nat) : Int) < (L : Int) := by omega
  obtain ⟨r, A, B, a1, a2, a3, a4⟩ := o_foretold (L := L) (xs := xs) H (xs (i + 1)) (xs (i + 2)) (xs (i + 3))
  refine ⟨B, ?_, a3, a4⟩
  rw [q_0_1222]
  simp only [wi1 hi5, wi2 hi5, wi3 hi5, if_pos q1, if_pos q2, if_pos q3, Int.toNat_natCast]
  rw [a1, bR, a2, bR, q_0_2042, wi7 hi5]
theorem lw_c26 (H : Inv S) {i : Nat} (hi : i + 7 ≤ L) (hL : L ≤ 3584) (hx : ∀ k, r32 (xs k)) : LwS L xs i (LQ (WK L xs) (ev (WK L xs) 200) 0 1265 [some (vr 1), some (vr 15), some (vr 72), some (vi (i : Int))] [] S) S := by
  have hi5 : i ≤ 5000 := by omega
  have q1 : (0 : Int) ≤ ((i + 1 : Nat) : Int) ∧ ((i + 1 : Nat) : Int) < (L : Int) := by omega
  have q2 : (0 : Int) ≤ ((i + 2 : Nat) : Int) ∧ ((i + 2 : Nat) : Int) < (L : Int) := by omega
  obtain ⟨r, A, B, a1, a2, a3, a4⟩ := o_due (L := L) (xs := xs) H (xs (i + 1)) (xs (i + 2))
  refine ⟨B, ?_, a3, a4⟩
  rw [q_0_1265]
  simp only [wi1 hi5, wi2 hi5, if_pos q1, if_pos q2, Int.toNat_natCast]
  rw [a1, bR, a2, bR, q_0_2042, wi7 hi5]
theorem lw_c27 (H : Inv S) {i : Nat} (hi : i + 7 ≤ L) (hL : L ≤ 3584) (hx : ∀ k, r32 (xs k)) : LwS L xs i (LQ (WK L xs) (ev (WK L xs) 200) 0 1298 [some (vr 1), some (vr 15), some (vr 72), some (vi (i : Int))] [] S) S := by
  have hi5 : i ≤ 5000 := by omega
  obtain ⟨r, r2, A, B, a1, a2, a3, a4⟩ := o_shortWeek (L := L) (xs := xs) H 
  refine ⟨B, ?_, a3, a4⟩
  rw [q_0_1298]
  rw [a1, bR, a2, bR, q_0_2042, wi7 hi5]
theorem lw_c28 (H : Inv S) {i : Nat} (hi : i + 7 ≤ L) (hL : L ≤ 3584) (hx : ∀ k, r32 (xs k)) : LwS L xs i (LQ (WK L xs) (ev (WK L xs) 200) 0 1311 [some (vr 1), some (vr 15), some (vr 72), some (vi (i : Int))] [] S) S := by
  have hi5 : i ≤ 5000 := by omega
  have q1 : (0 : Int) ≤ ((i + 1 : Nat) : Int) ∧ ((i + 1 : Nat) : Int) < (L : Int) := by omega
  have q2 : (0 : Int) ≤ ((i + 2 : Nat) : Int) ∧ ((i + 2 : Nat) : Int) < (L : Int) := by omega
  have q3 : (0 : Int) ≤ ((i + 3 : Nat) : Int) ∧ ((i + 3 : Nat) : Int) < (L : Int) := by omega
  have q4 : (0 : Int) ≤ ((i + 4 : Nat) : Int) ∧ ((i + 4 : Nat) : Int) < (L : Int) := by omega
  obtain ⟨r, A, B, a1, a2, a3, a4⟩ := o_offer (L := L) (xs := xs) H (xs (i + 1)) (xs (i + 2)) (xs (i + 3)) (xs (i + 4))
  refine ⟨B, ?_, a3, a4⟩
  rw [q_0_1311]
  simp only [wi1 hi5, wi2 hi5, wi3 hi5, wi4 hi5, if_pos q1, if_pos q2, if_pos q3, if_pos q4, Int.toNat_natCast]
  rw [a1, bR, a2, bR, q_0_2042, wi7 hi5]
theorem lw_c29 (H : Inv S) {i : Nat} (hi : i + 7 ≤ L) (hL : L ≤ 3584) (hx : ∀ k, r32 (xs k)) : LwS L xs i (LQ (WK L xs) (ev (WK L xs) 200) 0 1364 [some (vr 1), some (vr 15), some (vr 72), some (vi (i : Int))] [] S) S := by
  have hi5 : i ≤ 5000 := by omega
  obtain ⟨r, r2, A, B, a1, a2, a3, a4⟩ := o_plan (L := L) (xs := xs) H 
  refine ⟨B, ?_, a3, a4⟩
  rw [q_0_1364]
  rw [a1, bR, a2, bR, q_0_2042, wi7 hi5]
theorem lw_c30 (H : Inv S) {i : Nat} (hi : i + 7 ≤ L) (hL : L ≤ 3584) (hx : ∀ k, r32 (xs k)) : LwS L xs i (LQ (WK L xs) (ev (WK L xs) 200) 0 1377 [some (vr 1), some (vr 15), some (vr 72), some (vi (i : Int))] [] S) S := by
  have hi5 : i ≤ 5000 := by omega
  have q1 : (0 : Int) ≤ ((i + 1 : Nat) : Int) ∧ ((i + 1 : Nat) : Int) < (L : Int) := by omega
  obtain ⟨r, r2, A, B, a1, a2, a3, a4⟩ := o_judge (L := L) (xs := xs) H (xs (i + 1))
  refine ⟨B, ?_, a3, a4⟩
  rw [q_0_1377]
  simp only [wi1 hi5, if_pos q1, Int.toNat_natCast]
  rw [a1, bR, a2, bR, q_0_2042, wi7 hi5]
theorem lw_c31 (H : Inv S) {i : Nat} (hi : i + 7 ≤ L) (hL : L ≤ 3584) (hx : ∀ k, r32 (xs k)) : LwS L xs i (LQ (WK L xs) (ev (WK L xs) 200) 0 1400 [some (vr 1), some (vr 15), some (vr 72), some (vi (i : Int))] [] S) S := by
  have hi5 : i ≤ 5000 := by omega
  have q1 : (0 : Int) ≤ ((i + 1 : Nat) : Int) ∧ ((i + 1 : Nat) : Int) < (L : Int) := by omega
  have q2 : (0 : Int) ≤ ((i + 2 : Nat) : Int) ∧ ((i + 2 : Nat) : Int) < (L : Int) := by omega
  obtain ⟨r, A, B, a1, a2, a3, a4⟩ := o_bid (L := L) (xs := xs) H (xs (i + 1)) (xs (i + 2))
  refine ⟨B, ?_, a3, a4⟩
  rw [q_0_1400]
  simp only [wi1 hi5, wi2 hi5, if_pos q1, if_pos q2, Int.toNat_natCast]
  rw [a1, bR, a2, bR, q_0_2042, wi7 hi5]
theorem lw_c32 (H : Inv S) {i : Nat} (hi : i + 7 ≤ L) (hL : L ≤ 3584) (hx : ∀ k, r32 (xs k)) : LwS L xs i (LQ (WK L xs) (ev (WK L xs) 200) 0 1433 [some (vr 1), some (vr 15), some (vr 72), some (vi (i : Int))] [] S) S := by
  have hi5 : i ≤ 5000 := by omega
  have q1 : (0 : Int) ≤ ((i + 1 : Nat) : Int) ∧ ((i + 1 : Nat) : Int) < (L : Int) := by omega
  have q2 : (0 : Int) ≤ ((i + 2 : Nat) : Int) ∧ ((i + 2 : Nat) : Int) < (L : Int) := by omega
  by_cases hz : xs (i + 2) = 0
  · obtain ⟨r, A, B, a1, a2, a3, a4⟩ := o_tender (L := L) (xs := xs) H (xs (i + 1)) 0
    refine ⟨B, ?_, a3, a4⟩
    rw [q_0_1433]
    simp only [wi1 hi5, wi2 hi5, if_pos q1, if_pos q2, Int.toNat_natCast]
    rw [if_pos hz, q_0_1452]
    simp only [wi1 hi5, wi2 hi5, if_pos q1, if_pos q2, Int.toNat_natCast]
    rw [a1, bR, if_pos hz, a2, bR, q_0_2042, wi7 hi5]
  · obtain ⟨r, A, B, a1, a2, a3, a4⟩ := o_tender (L := L) (xs := xs) H (xs (i + 1)) 1
    refine ⟨B, ?_, a3, a4⟩
    rw [q_0_1433]
    simp only [wi1 hi5, wi2 hi5, if_pos q1, if_pos q2, Int.toNat_natCast]
    rw [if_neg hz, q_0_1452]
    simp only [wi1 hi5, wi2 hi5, if_pos q1, if_pos q2, Int.toNat_natCast]
    rw [a1, bR, if_neg hz, a2, bR, q_0_2042, wi7 hi5]
theorem lw_c33 (H : Inv S) {i : Nat} (hi : i + 7 ≤ L) (hL : L ≤ 3584) (hx : ∀ k, r32 (xs k)) : LwS L xs i (LQ (WK L xs) (ev (WK L xs) 200) 0 1482 [some (vr 1), some (vr 15), some (vr 72), some (vi (i : Int))] [] S) S := by
  have hi5 : i ≤ 5000 := by omega
  have q1 : (0 : Int) ≤ ((i + 1 : Nat) : Int) ∧ ((i + 1 : Nat) : Int) < (L : Int) := by omega
  obtain ⟨r, A, B, a1, a2, a3, a4⟩ := o_repay (L := L) (xs := xs) H (xs (i + 1))
  refine ⟨B, ?_, a3, a4⟩
  rw [q_0_1482]
  simp only [wi1 hi5, if_pos q1, Int.toNat_natCast]
  rw [a1, bR, a2, bR, q_0_2042, wi7 hi5]
theorem lw_c34 (H : Inv S) {i : Nat} (hi : i + 7 ≤ L) (hL : L ≤ 3584) (hx : ∀ k, r32 (xs k)) : LwS L xs i (LQ (WK L xs) (ev (WK L xs) 200) 0 1505 [some (vr 1), some (vr 15), some (vr 72), some (vi (i : Int))] [] S) S := by
  have hi5 : i ≤ 5000 := by omega
  have q1 : (0 : Int) ≤ ((i + 1 : Nat) : Int) ∧ ((i + 1 : Nat) : Int) < (L : Int) := by omega
  have q2 : (0 : Int) ≤ ((i + 2 : Nat) : Int) ∧ ((i + 2 : Nat) : Int) < (L : Int) := by omega
  obtain ⟨r, A, B, a1, a2, a3, a4⟩ := o_loan (L := L) (xs := xs) H (xs (i + 1)) (xs (i + 2))
  refine ⟨B, ?_, a3, a4⟩
  rw [q_0_1505]
  simp only [wi1 hi5, wi2 hi5, if_pos q1, if_pos q2, Int.toNat_natCast]
  rw [a1, bR, a2, bR, q_0_2042, wi7 hi5]
theorem lw_c35 (H : Inv S) {i : Nat} (hi : i + 7 ≤ L) (hL : L ≤ 3584) (hx : ∀ k, r32 (xs k)) : LwS L xs i (LQ (WK L xs) (ev (WK L xs) 200) 0 1538 [some (vr 1), some (vr 15), some (vr 72), some (vi (i : Int))] [] S) S := by
  have hi5 : i ≤ 5000 := by omega
  have q1 : (0 : Int) ≤ ((i + 1 : Nat) : Int) ∧ ((i + 1 : Nat) : Int) < (L : Int) := by omega
  have q2 : (0 : Int) ≤ ((i + 2 : Nat) : Int) ∧ ((i + 2 : Nat) : Int) < (L : Int) := by omega
  have q3 : (0 : Int) ≤ ((i + 3 : Nat) : Int) ∧ ((i + 3 : Nat) : Int) < (L : Int) := by omega
  obtain ⟨r, A, B, a1, a2, a3, a4⟩ := o_draw (L := L) (xs := xs) H (xs (i + 1)) (xs (i + 2)) (xs (i + 3))
  refine ⟨B, ?_, a3, a4⟩
  rw [q_0_1538]
  simp only [wi1 hi5, wi2 hi5, wi3 hi5, if_pos q1, if_pos q2, if_pos q3, Int.toNat_natCast]
  rw [a1, bR, a2, bR, q_0_2042, wi7 hi5]
theorem lw_c36 (H : Inv S) {i : Nat} (hi : i + 7 ≤ L) (hL : L ≤ 3584) (hx : ∀ k, r32 (xs k)) : LwS L xs i (LQ (WK L xs) (ev (WK L xs) 200) 0 1581 [some (vr 1), some (vr 15), some (vr 72), some (vi (i : Int))] [] S) S := by
  have hi5 : i ≤ 5000 := by omega
  have q1 : (0 : Int) ≤ ((i + 1 : Nat) : Int) ∧ ((i + 1 : Nat) : Int) < (L : Int) := by omega
  have q2 : (0 : Int) ≤ ((i + 2 : Nat) : Int) ∧ ((i + 2 : Nat) : Int) < (L : Int) := by omega
  obtain ⟨r, A, B, a1, a2, a3, a4⟩ := o_drawn (L := L) (xs := xs) H (xs (i + 1)) (xs (i + 2))
  refine ⟨B, ?_, a3, a4⟩
  rw [q_0_1581]
  simp only [wi1 hi5, wi2 hi5, if_pos q1, if_pos q2, Int.toNat_natCast]
  rw [a1, bR, a2, bR, q_0_2042, wi7 hi5]
theorem lw_c37 (H : Inv S) {i : Nat} (hi : i + 7 ≤ L) (hL : L ≤ 3584) (hx : ∀ k, r32 (xs k)) : LwS L xs i (LQ (WK L xs) (ev (WK L xs) 200) 0 1614 [some (vr 1), some (vr 15), some (vr 72), some (vi (i : Int))] [] S) S := by
  have hi5 : i ≤ 5000 := by omega
  have q1 : (0 : Int) ≤ ((i + 1 : Nat) : Int) ∧ ((i + 1 : Nat) : Int) < (L : Int) := by omega
  have q2 : (0 : Int) ≤ ((i + 2 : Nat) : Int) ∧ ((i + 2 : Nat) : Int) < (L : Int) := by omega
  obtain ⟨r, A, B, a1, a2, a3, a4⟩ := o_test (L := L) (xs := xs) H (xs (i + 1)) (xs (i + 2))
  refine ⟨B, ?_, a3, a4⟩
  rw [q_0_1614]
  simp only [wi1 hi5, wi2 hi5, if_pos q1, if_pos q2, Int.toNat_natCast]
  rw [a1, bR, a2, bR, q_0_2042, wi7 hi5]
theorem lw_c38 (H : Inv S) {i : Nat} (hi : i + 7 ≤ L) (hL : L ≤ 3584) (hx : ∀ k, r32 (xs k)) : LwS L xs i (LQ (WK L xs) (ev (WK L xs) 200) 0 1647 [some (vr 1), some (vr 15), some (vr 72), some (vi (i : Int))] [] S) S := by
  have hi5 : i ≤ 5000 := by omega
  have q1 : (0 : Int) ≤ ((i + 1 : Nat) : Int) ∧ ((i + 1 : Nat) : Int) < (L : Int) := by omega
  have q2 : (0 : Int) ≤ ((i + 2 : Nat) : Int) ∧ ((i + 2 : Nat) : Int) < (L : Int) := by omega
  obtain ⟨r, A, B, a1, a2, a3, a4⟩ := o_found (L := L) (xs := xs) H (xs (i + 1)) (xs (i + 2))
  refine ⟨B, ?_, a3, a4⟩
  rw [q_0_1647]
  simp only [wi1 hi5, wi2 hi5, if_pos q1, if_pos q2, Int.toNat_natCast]
  rw [a1, bR, a2, bR, q_0_2042, wi7 hi5]
theorem lw_c39 (H : Inv S) {i : Nat} (hi : i + 7 ≤ L) (hL : L ≤ 3584) (hx : ∀ k, r32 (xs k)) : LwS L xs i (LQ (WK L xs) (ev (WK L xs) 200) 0 1680 [some (vr 1), some (vr 15), some (vr 72), some (vi (i : Int))] [] S) S := by
  have hi5 : i ≤ 5000 := by omega
  have q1 : (0 : Int) ≤ ((i + 1 : Nat) : Int) ∧ ((i + 1 : Nat) : Int) < (L : Int) := by omega
  obtain ⟨r, A, B, a1, a2, a3, a4⟩ := o_question (L := L) (xs := xs) H (xs (i + 1))
  refine ⟨B, ?_, a3, a4⟩
  rw [q_0_1680]
  simp only [wi1 hi5, if_pos q1, Int.toNat_natCast]
  rw [a1, bR, a2, bR, q_0_2042, wi7 hi5]
theorem lw_c40 (H : Inv S) {i : Nat} (hi : i + 7 ≤ L) (hL : L ≤ 3584) (hx : ∀ k, r32 (xs k)) : LwS L xs i (LQ (WK L xs) (ev (WK L xs) 200) 0 1703 [some (vr 1), some (vr 15), some (vr 72), some (vi (i : Int))] [] S) S := by
  have hi5 : i ≤ 5000 := by omega
  have q1 : (0 : Int) ≤ ((i + 1 : Nat) : Int) ∧ ((i + 1 : Nat) : Int) < (L : Int) := by omega
  have q2 : (0 : Int) ≤ ((i + 2 : Nat) : Int) ∧ ((i + 2 : Nat) : Int) < (L : Int) := by omega
  by_cases hz : xs (i + 2) = 0
  · obtain ⟨r, A, B, a1, a2, a3, a4⟩ := o_answer (L := L) (xs := xs) H (xs (i + 1)) 0
    refine ⟨B, ?_, a3, a4⟩
    rw [q_0_1703]
    simp only [wi1 hi5, wi2 hi5, if_pos q1, if_pos q2, Int.toNat_natCast]
    rw [if_pos hz, q_0_1722]
    simp only [wi1 hi5, wi2 hi5, if_pos q1, if_pos q2, Int.toNat_natCast]
    rw [a1, bR, if_pos hz, a2, bR, q_0_2042, wi7 hi5]
  · obtain ⟨r, A, B, a1, a2, a3, a4⟩ := o_answer (L := L) (xs := xs) H (xs (i + 1)) 1
    refine ⟨B, ?_, a3, a4⟩
    rw [q_0_1703]
    simp only [wi1 hi5, wi2 hi5, if_pos q1, if_pos q2, Int.toNat_natCast]
    rw [if_neg hz, q_0_1722]
    simp only [wi1 hi5, wi2 hi5, if_pos q1, if_pos q2, Int.toNat_natCast]
    rw [a1, bR, if_neg hz, a2, bR, q_0_2042, wi7 hi5]
theorem lw_c41 (H : Inv S) {i : Nat} (hi : i + 7 ≤ L) (hL : L ≤ 3584) (hx : ∀ k, r32 (xs k)) : LwS L xs i (LQ (WK L xs) (ev (WK L xs) 200) 0 1752 [some (vr 1), some (vr 15), some (vr 72), some (vi (i : Int))] [] S) S := by
  have hi5 : i ≤ 5000 := by omega
  have q1 : (0 : Int) ≤ ((i + 1 : Nat) : Int) ∧ ((i + 1 : Nat) : Int) < (L : Int) := by omega
  obtain ⟨r, A, B, a1, a2, a3, a4⟩ := o_falls (L := L) (xs := xs) H (xs (i + 1))
  refine ⟨B, ?_, a3, a4⟩
  rw [q_0_1752]
  simp only [wi1 hi5, if_pos q1, Int.toNat_natCast]
  rw [a1, bR, a2, bR, q_0_2042, wi7 hi5]
theorem lw_c42 (H : Inv S) {i : Nat} (hi : i + 7 ≤ L) (hL : L ≤ 3584) (hx : ∀ k, r32 (xs k)) : LwS L xs i (LQ (WK L xs) (ev (WK L xs) 200) 0 1775 [some (vr 1), some (vr 15), some (vr 72), some (vi (i : Int))] [] S) S := by
  have hi5 : i ≤ 5000 := by omega
  have q1 : (0 : Int) ≤ ((i + 1 : Nat) : Int) ∧ ((i + 1 : Nat) : Int) < (L : Int) := by omega
  obtain ⟨r, A, B, a1, a2, a3, a4⟩ := o_surcharged (L := L) (xs := xs) H (xs (i + 1))
  refine ⟨B, ?_, a3, a4⟩
  rw [q_0_1775]
  simp only [wi1 hi5, if_pos q1, Int.toNat_natCast]
  rw [a1, bR, a2, bR, q_0_2042, wi7 hi5]
theorem lw_c43 (H : Inv S) {i : Nat} (hi : i + 7 ≤ L) (hL : L ≤ 3584) (hx : ∀ k, r32 (xs k)) : LwS L xs i (LQ (WK L xs) (ev (WK L xs) 200) 0 1798 [some (vr 1), some (vr 15), some (vr 72), some (vi (i : Int))] [] S) S := by
  have hi5 : i ≤ 5000 := by omega
  have q1 : (0 : Int) ≤ ((i + 1 : Nat) : Int) ∧ ((i + 1 : Nat) : Int) < (L : Int) := by omega
  have q2 : (0 : Int) ≤ ((i + 2 : Nat) : Int) ∧ ((i + 2 : Nat) : Int) < (L : Int) := by omega
  obtain ⟨r, A, B, a1, a2, a3, a4⟩ := o_find (L := L) (xs := xs) H (xs (i + 1)) (xs (i + 2))
  refine ⟨B, ?_, a3, a4⟩
  rw [q_0_1798]
  simp only [wi1 hi5, wi2 hi5, if_pos q1, if_pos q2, Int.toNat_natCast]
  rw [a1, bR, a2, bR, q_0_2042, wi7 hi5]
theorem lw_c44 (H : Inv S) {i : Nat} (hi : i + 7 ≤ L) (hL : L ≤ 3584) (hx : ∀ k, r32 (xs k)) : LwS L xs i (LQ (WK L xs) (ev (WK L xs) 200) 0 1831 [some (vr 1), some (vr 15), some (vr 72), some (vi (i : Int))] [] S) S := by
  have hi5 : i ≤ 5000 := by omega
  have q1 : (0 : Int) ≤ ((i + 1 : Nat) : Int) ∧ ((i + 1 : Nat) : Int) < (L : Int) := by omega
  have q2 : (0 : Int) ≤ ((i + 2 : Nat) : Int) ∧ ((i + 2 : Nat) : Int) < (L : Int) := by omega
  have q3 : (0 : Int) ≤ ((i + 3 : Nat) : Int) ∧ ((i + 3 : Nat) : Int) < (L : Int) := by omega
  obtain ⟨r, A, B, a1, a2, a3, a4⟩ := o_paid (L := L) (xs := xs) H (xs (i + 1)) (xs (i + 2)) (xs (i + 3))
  refine ⟨B, ?_, a3, a4⟩
  rw [q_0_1831]
  simp only [wi1 hi5, wi2 hi5, wi3 hi5, if_pos q1, if_pos q2, if_pos q3, Int.toNat_natCast]
  rw [a1, bR, a2, bR, q_0_2042, wi7 hi5]
theorem lw_c45 (H : Inv S) {i : Nat} (hi : i + 7 ≤ L) (hL : L ≤ 3584) (hx : ∀ k, r32 (xs k)) : LwS L xs i (LQ (WK L xs) (ev (WK L xs) 200) 0 1874 [some (vr 1), some (vr 15), some (vr 72), some (vi (i : Int))] [] S) S := by
  have hi5 : i ≤ 5000 := by omega
  have q1 : (0 : Int) ≤ ((i + 1 : Nat) : Int) ∧ ((i + 1 : Nat) : Int) < (L : Int) := by omega
  obtain ⟨r, A, B, a1, a2, a3, a4⟩ := o_close (L := L) (xs := xs) H (xs (i + 1))
  refine ⟨B, ?_, a3, a4⟩
  rw [q_0_1874]
  simp only [wi1 hi5, if_pos q1, Int.toNat_natCast]
  rw [a1, bR, a2, bR, q_0_2042, wi7 hi5]
theorem lw_c46 (H : Inv S) {i : Nat} (hi : i + 7 ≤ L) (hL : L ≤ 3584) (hx : ∀ k, r32 (xs k)) : LwS L xs i (LQ (WK L xs) (ev (WK L xs) 200) 0 1897 [some (vr 1), some (vr 15), some (vr 72), some (vi (i : Int))] [] S) S := by
  have hi5 : i ≤ 5000 := by omega
  have q1 : (0 : Int) ≤ ((i + 1 : Nat) : Int) ∧ ((i + 1 : Nat) : Int) < (L : Int) := by omega
  have q2 : (0 : Int) ≤ ((i + 2 : Nat) : Int) ∧ ((i + 2 : Nat) : Int) < (L : Int) := by omega
  obtain ⟨r, A, B, a1, a2, a3, a4⟩ := o_check (L := L) (xs := xs) H (xs (i + 1)) (xs (i + 2)) (by have := hx (i + 2); exact this)
  refine ⟨B, ?_, a3, a4⟩
  rw [q_0_1897]
  simp only [wi1 hi5, wi2 hi5, if_pos q1, if_pos q2, Int.toNat_natCast]
  rw [a1, bR, a2, bR, q_0_2042, wi7 hi5]
theorem lw_c47 (H : Inv S) {i : Nat} (hi : i + 7 ≤ L) (hL : L ≤ 3584) (hx : ∀ k, r32 (xs k)) : LwS L xs i (LQ (WK L xs) (ev (WK L xs) 200) 0 1930 [some (vr 1), some (vr 15), some (vr 72), some (vi (i : Int))] [] S) S := by
  have hi5 : i ≤ 5000 := by omega
  have q1 : (0 : Int) ≤ ((i + 1 : Nat) : Int) ∧ ((i + 1 : Nat) : Int) < (L : Int) := by omega
  have q2 : (0 : Int) ≤ ((i + 2 : Nat) : Int) ∧ ((i + 2 : Nat) : Int) < (L : Int) := by omega
  obtain ⟨r, A, B, a1, a2, a3, a4⟩ := o_look (L := L) (xs := xs) H (xs (i + 1)) (xs (i + 2))
  refine ⟨B, ?_, a3, a4⟩
  rw [q_0_1930]
  simp only [wi1 hi5, wi2 hi5, if_pos q1, if_pos q2, Int.toNat_natCast]
  rw [a1, bR, a2, bR, q_0_2042, wi7 hi5]
theorem lw_c48 (H : Inv S) {i : Nat} (hi : i + 7 ≤ L) (hL : L ≤ 3584) (hx : ∀ k, r32 (xs k)) : LwS L xs i (LQ (WK L xs) (ev (WK L xs) 200) 0 1963 [some (vr 1), some (vr 15), some (vr 72), some (vi (i : Int))] [] S) S := by
  have hi5 : i ≤ 5000 := by omega
  have q1 : (0 : Int) ≤ ((i + 1 : Nat) : Int) ∧ ((i + 1 : Nat) : Int) < (L : Int) := by omega
  have q2 : (0 : Int) ≤ ((i + 2 : Nat) : Int) ∧ ((i + 2 : Nat) : Int) < (L : Int) := by omega
  obtain ⟨r, A, B, a1, a2, a3, a4⟩ := o_about (L := L) (xs := xs) H (xs (i + 1)) (xs (i + 2))
  refine ⟨B, ?_, a3, a4⟩
  rw [q_0_1963]
  simp only [wi1 hi5, wi2 hi5, if_pos q1, if_pos q2, Int.toNat_natCast]
  rw [a1, bR, a2, bR, q_0_2042, wi7 hi5]
theorem lw_c49 (H : Inv S) {i : Nat} (hi : i + 7 ≤ L) (hL : L ≤ 3584) (hx : ∀ k, r32 (xs k)) : LwS L xs i (LQ (WK L xs) (ev (WK L xs) 200) 0 1996 [some (vr 1), some (vr 15), some (vr 72), some (vi (i : Int))] [] S) S := by
  have hi5 : i ≤ 5000 := by omega
  have q1 : (0 : Int) ≤ ((i + 1 : Nat) : Int) ∧ ((i + 1 : Nat) : Int) < (L : Int) := by omega
  obtain ⟨r, A, B, a1, a2, a3, a4⟩ := o_count (L := L) (xs := xs) H (xs (i + 1))
  refine ⟨B, ?_, a3, a4⟩
  rw [q_0_1996]
  simp only [wi1 hi5, if_pos q1, Int.toNat_natCast]
  rw [a1, bR, a2, bR, q_0_2042, wi7 hi5]
theorem lw_c50 (H : Inv S) {i : Nat} (hi : i + 7 ≤ L) (hL : L ≤ 3584) (hx : ∀ k, r32 (xs k)) : LwS L xs i (LQ (WK L xs) (ev (WK L xs) 200) 0 2019 [some (vr 1), some (vr 15), some (vr 72), some (vi (i : Int))] [] S) S := by
  have hi5 : i ≤ 5000 := by omega
  have q1 : (0 : Int) ≤ ((i + 1 : Nat) : Int) ∧ ((i + 1 : Nat) : Int) < (L : Int) := by omega
  obtain ⟨r, A, B, a1, a2, a3, a4⟩ := o_sum (L := L) (xs := xs) H (xs (i + 1))
  refine ⟨B, ?_, a3, a4⟩
  rw [q_0_2019]
  simp only [wi1 hi5, if_pos q1, Int.toNat_natCast]
  rw [a1, bR, a2, bR, q_0_2042, wi7 hi5]
theorem law_step (H : Inv S) {i : Nat} (hi : i + 7 ≤ L) (hL : L ≤ 3584) (hx : ∀ k, r32 (xs k)) : LwS L xs i (LQ (WK L xs) (ev (WK L xs) 200) 0 18 [some (vr 1), some (vr 15), some (vr 72), some (vi (i : Int))] [] S) S := by
  rw [q_0_18, w32e (x := (L : Int) - 7) (by omega) (by omega), if_neg (by omega), if_pos (by omega), Int.toNat_natCast]
  by_cases c0 : iand (xs i) 63 = 0
  · rw [if_pos c0]
    exact lw_c0 H hi hL hx
  rw [if_neg c0]
  by_cases c1 : iand (xs i) 63 = 1
  · rw [if_pos c1]
    exact lw_c1 H hi hL hx
  rw [if_neg c1]
  by_cases c2 : iand (xs i) 63 = 2
  · rw [if_pos c2]
    exact lw_c2 H hi hL hx
  rw [if_neg c2]
  by_cases c3 : iand (xs i) 63 = 3
  · rw [if_pos c3]
    exact lw_c3 H hi hL hx
  rw [if_neg c3]
  by_cases c4 : iand (xs i) 63 = 4
  · rw [if_pos c4]
    exact lw_c4 H hi hL hx
  rw [if_neg c4]
  by_cases c5 : iand (xs i) 63 = 5
  · rw [if_pos c5]
    exact lw_c5 H hi hL hx
  rw [if_neg c5]
  by_cases c6 : iand (xs i) 63 = 6
  · rw [if_pos c6]
    exact lw_c6 H hi hL hx
  rw [if_neg c6]
  by_cases c7 : iand (xs i) 63 = 7
  · rw [if_pos c7]
    exact lw_c7 H hi hL hx
  rw [if_neg c7]
  by_cases c8 : iand (xs i) 63 = 8
  · rw [if_pos c8]
    exact lw_c8 H hi hL hx
  rw [if_neg c8]
  by_cases c9 : iand (xs i) 63 = 9
  · rw [if_pos c9]
    exact lw_c9 H hi hL hx
  rw [if_neg c9]
  by_cases c10 : iand (xs i) 63 = 10
  · rw [if_pos c10]
    exact lw_c10 H hi hL hx
  rw [if_neg c10]
  by_cases c11 : iand (xs i) 63 = 11
  · rw [if_pos c11]
    exact lw_c11 H hi hL hx
  rw [if_neg c11]
  by_cases c12 : iand (xs i) 63 = 12
  · rw [if_pos c12]
    exact lw_c12 H hi hL hx
  rw [if_neg c12]
  by_cases c13 : iand (xs i) 63 = 13
  · rw [if_pos c13]
    exact lw_c13 H hi hL hx
  rw [if_neg c13]
  by_cases c14 : iand (xs i) 63 = 14
  · rw [if_pos c14]
    exact lw_c14 H hi hL hx
  rw [if_neg c14]
  by_cases c15 : iand (xs i) 63 = 15
  · rw [if_pos c15]
    exact lw_c15 H hi hL hx
  rw [if_neg c15]
  by_cases c16 : iand (xs i) 63 = 16
  · rw [if_pos c16]
    exact lw_c16 H hi hL hx
  rw [if_neg c16]
  by_cases c17 : iand (xs i) 63 = 17
  · rw [if_pos c17]
    exact lw_c17 H hi hL hx
  rw [if_neg c17]
  by_cases c18 : iand (xs i) 63 = 18
  · rw [if_pos c18]
    exact lw_c18 H hi hL hx
  rw [if_neg c18]
  by_cases c19 : iand (xs i) 63 = 19
  · rw [if_pos c19]
    exact lw_c19 H hi hL hx
  rw [if_neg c19]
  by_cases c20 : iand (xs i) 63 = 20
  · rw [if_pos c20]
    exact lw_c20 H hi hL hx
  rw [if_neg c20]
  by_cases c21 : iand (xs i) 63 = 21
  · rw [if_pos c21]
    exact lw_c21 H hi hL hx
  rw [if_neg c21]
  by_cases c22 : iand (xs i) 63 = 22
  · rw [if_pos c22]
    exact lw_c22 H hi hL hx
  rw [if_neg c22]
  by_cases c23 : iand (xs i) 63 = 23
  · rw [if_pos c23]
    exact lw_c23 H hi hL hx
  rw [if_neg c23]
  by_cases c24 : iand (xs i) 63 = 24
  · rw [if_pos c24]
    exact lw_c24 H hi hL hx
  rw [if_neg c24]
  by_cases c25 : iand (xs i) 63 = 25
  · rw [if_pos c25]
    exact lw_c25 H hi hL hx
  rw [if_neg c25]
  by_cases c26 : iand (xs i) 63 = 26
  · rw [if_pos c26]
    exact lw_c26 H hi hL hx
  rw [if_neg c26]
  by_cases c27 : iand (xs i) 63 = 27
  · rw [if_pos c27]
    exact lw_c27 H hi hL hx
  rw [if_neg c27]
  by_cases c28 : iand (xs i) 63 = 28
  · rw [if_pos c28]
    exact lw_c28 H hi hL hx
  rw [if_neg c28]
  by_cases c29 : iand (xs i) 63 = 29
  · rw [if_pos c29]
    exact lw_c29 H hi hL hx
  rw [if_neg c29]
  by_cases c30 : iand (xs i) 63 = 30
  · rw [if_pos c30]
    exact lw_c30 H hi hL hx
  rw [if_neg c30]
  by_cases c31 : iand (xs i) 63 = 31
  · rw [if_pos c31]
    exact lw_c31 H hi hL hx
  rw [if_neg c31]
  by_cases c32 : iand (xs i) 63 = 32
  · rw [if_pos c32]
    exact lw_c32 H hi hL hx
  rw [if_neg c32]
  by_cases c33 : iand (xs i) 63 = 33
  · rw [if_pos c33]
    exact lw_c33 H hi hL hx
  rw [if_neg c33]
  by_cases c34 : iand (xs i) 63 = 34
  · rw [if_pos c34]
    exact lw_c34 H hi hL hx
  rw [if_neg c34]
  by_cases c35 : iand (xs i) 63 = 35
  · rw [if_pos c35]
    exact lw_c35 H hi hL hx
  rw [if_neg c35]
  by_cases c36 : iand (xs i) 63 = 36
  · rw [if_pos c36]
    exact lw_c36 H hi hL hx
  rw [if_neg c36]
  by_cases c37 : iand (xs i) 63 = 37
  · rw [if_pos c37]
    exact lw_c37 H hi hL hx
  rw [if_neg c37]
  by_cases c38 : iand (xs i) 63 = 38
  · rw [if_pos c38]
    exact lw_c38 H hi hL hx
  rw [if_neg c38]
  by_cases c39 : iand (xs i) 63 = 39
  · rw [if_pos c39]
    exact lw_c39 H hi hL hx
  rw [if_neg c39]
  by_cases c40 : iand (xs i) 63 = 40
  · rw [if_pos c40]
    exact lw_c40 H hi hL hx
  rw [if_neg c40]
  by_cases c41 : iand (xs i) 63 = 41
  · rw [if_pos c41]
    exact lw_c41 H hi hL hx
  rw [if_neg c41]
  by_cases c42 : iand (xs i) 63 = 42
  · rw [if_pos c42]
    exact lw_c42 H hi hL hx
  rw [if_neg c42]
  by_cases c43 : iand (xs i) 63 = 43
  · rw [if_pos c43]
    exact lw_c43 H hi hL hx
  rw [if_neg c43]
  by_cases c44 : iand (xs i) 63 = 44
  · rw [if_pos c44]
    exact lw_c44 H hi hL hx
  rw [if_neg c44]
  by_cases c45 : iand (xs i) 63 = 45
  · rw [if_pos c45]
    exact lw_c45 H hi hL hx
  rw [if_neg c45]
  by_cases c46 : iand (xs i) 63 = 46
  · rw [if_pos c46]
    exact lw_c46 H hi hL hx
  rw [if_neg c46]
  by_cases c47 : iand (xs i) 63 = 47
  · rw [if_pos c47]
    exact lw_c47 H hi hL hx
  rw [if_neg c47]
  by_cases c48 : iand (xs i) 63 = 48
  · rw [if_pos c48]
    exact lw_c48 H hi hL hx
  rw [if_neg c48]
  by_cases c49 : iand (xs i) 63 = 49
  · rw [if_pos c49]
    exact lw_c49 H hi hL hx
  rw [if_neg c49]
  by_cases c50 : iand (xs i) 63 = 50
  · rw [if_pos c50]
    exact lw_c50 H hi hL hx
  rw [if_neg c50]
  exact ⟨S, by rw [q_0_2042, wi7 (by omega)], H, Gw.rf⟩
theorem lg_k {k0 k a b c : Nat} (h : a ≤ k0 + k * c) (g : b ≤ a + k) : b ≤ k0 + k * (c + 1) := by
  rw [Nat.mul_succ]
  generalize k * c = z at h ⊢
  omega
theorem law_loop (hL : L ≤ 3584) (hx : ∀ k, r32 (xs k)) : ∀ (m c : Nat) (S : AH), 7 * c ≤ L → L < 7 * c + 7 * m + 7 → Inv S → S.1.1 ≤ 151 + 1000 * c → S.1.2.1 ≤ 66190 + 10000 * c → ∃ SF : AH, LQ (WK L xs) (ev (WK L xs) 200) 0 18 [some (vr 1), some (vr 15), some (vr 72), some (vi ((7 * c : Nat) : Int))] [] S = some (1, SF) ∧ SF.1.1 ≤ 600000 ∧ SF.1.2.1 ≤ 7302250 := by
  intro m
  induction m with
  | zero =>
    intro c S hc hm H h1 h2
    refine ⟨S, ?_, by omega, by omega⟩
    rw [q_0_18, w32e (x := (L : Int) - 7) (by omega) (by omega), if_pos (by omega)]
  | succ m ih =>
    intro c S hc hm H h1 h2
    by_cases q : 7 * c + 7 ≤ L
    · obtain ⟨T, t1, t2, t3⟩ := law_step (xs := xs) H q hL hx
      have g1 := t3.1
      have g2 := t3.2
      obtain ⟨SF, f1, f2⟩ := ih (c + 1) T (by omega) (by omega) t2 (lg_k h1 g1) (lg_k h2 g2)
      refine ⟨SF, ?_, f2⟩
      rw [t1]
      exact f1
    · refine ⟨S, ?_, by omega, by omega⟩
      rw [q_0_18, w32e (x := (L : Int) - 7) (by omega) (by omega), if_pos (by omega)]
end
theorem law_runs : LawRuns := by
  intro L xs hL hx
  obtain ⟨SF, f1, f2, f3⟩ := law_loop (xs := xs) hL hx 512 0 SS (by omega) (by omega) inv_SS (by rw [SS_cells]; omega) (by rw [SS_slots]; omega)
  exact ⟨200, SF, by decide, f1, f2, f3⟩
end
