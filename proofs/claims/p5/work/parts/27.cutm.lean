/-! the search for more; the reference's loops -/
section
variable {L : Nat} {xs : Nat → Int} {S0 : AH}
theorem x_search (hU : GU S0.2) (bw : Int) (d : Nat) : ∀ (i P : Nat) (A : Nat → Prop) (v : Int) (S : AH), i ≤ nIt S0.2 → noLow P i → (∀ k, i ≤ k → k < nIt S0.2 → S0.2 132 k = 1 → P.testBit k = true) → D50 S0 S → S.2 50 7 = bw → S.2 50 8 = v → IsL S0.2 bw A v →
    ∃ S' v', ev (WK L xs) (d + i + 1) 99 [vr 50, vi ((i : Int) - 1), vl (sS S0.2 P), vl (wS S0.2 P)] S = some (0, S') ∧ D50 S0 S' ∧ S'.2 50 7 = bw ∧ S'.2 50 8 = v' ∧ IsL S0.2 bw (fun s => A s ∨ Tr P i s) v' := by
  have hB := hU.itB
  have hn := hB.1
  intro i
  induction i with
  | zero =>
    intro P A v S hi hlow hfl hD hbw hv hI
    have hs := sS_bd hB P
    have hw := wS_bd hB P
    have e53 : S.2 53 0 = 0 := by
      rw [hD.cell (by decide), hU.2.2.2.1 0 (by have := hU.1; omega)]
      rfl
    have hz : (((0 : Nat) : Int) - 1 + 1).toNat = 0 := by omega
    rw [q_99, if_pos (by first | decide | omega), w32e (by first | decide | omega) (by first | decide | omega), if_pos (by first | decide | omega), hz, e53, hbw, hv, Int.add_zero, w64e (by first | decide | omega) (by first | decide | omega)]
    simp only [lc_gt, lc_lt, lc_eq]
    by_cases k1 : bw < wS S0.2 P
    · rw [if_pos k1]
      have hleaf : ∀ D : Nat, LQ (WK L xs) (ev (WK L xs) D) 99 49 [some (vr 50), some (vi (((0 : Nat) : Int) - 1)), some (vl (sS S0.2 P)), none, some (vl (wS S0.2 P)), none] [] S = some (0, wr S 50 8 (sS S0.2 P)) := by
        intro D
        rw [q_99_49, if_pos (by first | decide | omega)]
      have htake : (v = -1 ∨ sS S0.2 P < v) → ∃ S' v', some ((0 : Int), wr S 50 8 (sS S0.2 P)) = some (0, S') ∧ D50 S0 S' ∧ S'.2 50 7 = bw ∧ S'.2 50 8 = v' ∧ IsL S0.2 bw (fun s => A s ∨ Tr P 0 s) v' := by
        intro hvt
        refine ⟨_, sS S0.2 P, rfl, hD.tr (D50.wr (by decide)), ?_, ?_, (hI.take (fun s => (sS_bd hB s).1) ⟨fun k hk hf => hfl k (by first | decide | omega) hk hf, k1⟩ hvt).ext (fun s => by rw [Tr_0])⟩
        · rw [wr_f, if_neg (by decide)]
          exact hbw
        · rw [wr_f, if_pos rfl]
      by_cases k2 : v = -1
      · rw [if_pos k2, hleaf]
        exact htake (Or.inl k2)
      · rw [if_neg k2]
        by_cases k3 : sS S0.2 P < v
        · rw [if_pos k3, hleaf]
          exact htake (Or.inr k3)
        · rw [if_neg k3]
          refine ⟨S, v, rfl, hD, hbw, hv, hI.grow (fun s hs' => Or.inr ⟨k2, ?_⟩)⟩
          have := Tr_0.mp hs'
          subst this
          omega
    · rw [if_neg k1]
      refine ⟨S, v, rfl, hD, hbw, hv, hI.grow (fun s hs' => Or.inl (fun z => ?_))⟩
      have := Tr_0.mp hs'
      subst this
      exact k1 z.2
  | succ j ih =>
    intro P A v S hi hlow hfl hD hbw hv hI
    have hs := sS_bd hB P
    have hw := wS_bd hB P
    have hpj : P.testBit j = false := hlow j (by first | decide | omega)
    have hwb : 0 ≤ sm (S0.2 131) (j + 1) ∧ sm (S0.2 131) (j + 1) ≤ ((j + 1 : Nat) : Int) * 1000000 := sm_bd (fun k hk => hB.2.2 k (by first | decide | omega))
    have e53 : S.2 53 (j + 1) = sm (S0.2 131) (j + 1) := by
      rw [hD.cell (by decide), hU.2.2.2.1 (j + 1) (by have := hU.1; unfold nIt at hi; omega)]
    have hj4 := hU.2.2.1 j (by have := hU.1; unfold nIt at hi; omega)
    have hs2 := sS_bd hB (P ||| 2 ^ j)
    have hw2 := wS_bd hB (P ||| 2 ^ j)
    rw [with_s (by first | decide | omega) hpj] at hs2
    rw [with_w (by first | decide | omega) hpj] at hw2
    have ej : ((j + 1 : Nat) : Int) - 1 = j := by omega
    have hwith : ∀ (A2 : Nat → Prop) (v2 : Int) (S2 : AH), D50 S0 S2 → S2.2 50 7 = bw → S2.2 50 8 = v2 → IsL S0.2 bw A2 v2 → ∃ S' v', LQ (WK L xs) (ev (WK L xs) (d + j + 1)) 99 80 [some (vr 50), some (vi (j : Int)), some (vl (sS S0.2 P)), none, some (vl (wS S0.2 P)), none] [] S2 = some (0, S') ∧ D50 S0 S' ∧ S'.2 50 7 = bw ∧ S'.2 50 8 = v' ∧ IsL S0.2 bw (fun s => A2 s ∨ Tr (P ||| 2 ^ j) j s) v' := by
      intro A2 v2 S2 g1 g2 g3 g4
      have e51 : S2.2 51 j = S0.2 130 j := by rw [g1.cell (by decide), hj4.1]
      have e52 : S2.2 52 j = S0.2 131 j := by rw [g1.cell (by decide), hj4.2.1]
      obtain ⟨S3, v3, r1, r2, r3, r4, r5⟩ := ih (P ||| 2 ^ j) A2 v2 S2 (by first | decide | omega) (fun k hk => by rw [bit_set hpj, decide_eq_false (by first | decide | omega), Bool.false_or]; exact hlow k (by first | decide | omega)) (fun k hk hk2 hf => by
        rw [bit_set hpj]
        by_cases e : j = k
        · simp [e]
        · rw [hfl k (by first | decide | omega) hk2 hf]
          simp) g1 g2 g3 g4
      rw [q_99_80, if_pos (by first | decide | omega), if_pos (by first | decide | omega), Int.toNat_natCast, e51, e52, w64e (x := sS S0.2 P + S0.2 130 j) (by first | decide | omega) (by first | decide | omega), w64e (x := wS S0.2 P + S0.2 131 j) (by first | decide | omega) (by first | decide | omega), ← with_s (by first | decide | omega) hpj, ← with_w (by first | decide | omega) hpj, w32e (by first | decide | omega) (by first | decide | omega), r1, bR]
      exact ⟨S3, v3, rfl, r2, r3, r4, r5⟩
    have hgo : ∃ S' v', LQ (WK L xs) (ev (WK L xs) (d + j + 1)) 99 49 [some (vr 50), some (vi (((j + 1 : Nat) : Int) - 1)), some (vl (sS S0.2 P)), none, some (vl (wS S0.2 P)), none] [] S = some (0, S') ∧ D50 S0 S' ∧ S'.2 50 7 = bw ∧ S'.2 50 8 = v' ∧ IsL S0.2 bw (fun s => A s ∨ Tr P (j + 1) s) v' := by
      rw [q_99_49, ej, if_neg (by first | decide | omega)]
      by_cases hf : S0.2 132 j = 1
      · rw [if_neg (fun z => (fl_bit hU hD (by first | decide | omega)).mp z hf)]
        obtain ⟨S3, v3, r1, r2, r3, r4, r5⟩ := hwith A v S hD hbw hv hI
        refine ⟨S3, v3, r1, r2, r3, r4, (r5.grow (B := Tr P j) (fun s hs' => Or.inl (fun z => ?_))).ext (fun s => ?_)⟩
        · have := z.1 j (by first | decide | omega) hf
          rw [hs' j (Nat.le_refl _), hpj] at this
          cases this
        · rw [Tr_split hlow s]
          exact or_assoc
      · rw [if_pos ((fl_bit hU hD (by first | decide | omega)).mpr hf), w32e (by first | decide | omega) (by first | decide | omega)]
        obtain ⟨S2, v2, t1, t2, t3, t4, t5⟩ := ih P A v S (by first | decide | omega) (fun k hk => hlow k (by first | decide | omega)) (fun k hk hk2 hf2 => by
          by_cases e : k = j
          · subst e
            exact absurd hf2 hf
          · exact hfl k (by first | decide | omega) hk2 hf2) hD hbw hv hI
        rw [t1, bR]
        obtain ⟨S3, v3, r1, r2, r3, r4, r5⟩ := hwith _ v2 S2 t2 t3 t4 t5
        refine ⟨S3, v3, r1, r2, r3, r4, r5.ext (fun s => ?_)⟩
        rw [Tr_split hlow s]
        constructor
        · rintro ((q | q) | q)
          · exact Or.inl q
          · exact Or.inr (Or.inr q)
          · exact Or.inr (Or.inl q)
        · rintro (q | q | q)
          · exact Or.inl (Or.inl q)
          · exact Or.inr q
          · exact Or.inl (Or.inr q)
    have ed : d + (j + 1) + 1 = (d + j + 1) + 1 := by omega
    have hz : (((j + 1 : Nat) : Int) - 1 + 1).toNat = j + 1 := by omega
    rw [ed, q_99, if_pos (by first | decide | omega), w32e (by first | decide | omega) (by first | decide | omega), if_pos (by first | decide | omega), hz, e53, hbw, hv, w64e (by first | decide | omega) (by first | decide | omega)]
    simp only [lc_gt, lc_lt, lc_eq]
    by_cases k1 : bw < wS S0.2 P + sm (S0.2 131) (j + 1)
    · rw [if_pos k1]
      by_cases k2 : v = -1
      · rw [if_pos k2]
        exact hgo
      · rw [if_neg k2]
        by_cases k3 : sS S0.2 P < v
        · rw [if_pos k3]
          exact hgo
        · rw [if_neg k3]
          refine ⟨S, v, rfl, hD, hbw, hv, hI.grow (fun s hs' => Or.inr ⟨k2, ?_⟩)⟩
          have := Tr_s hB hlow hs'
          omega
    · rw [if_neg k1]
      refine ⟨S, v, rfl, hD, hbw, hv, hI.grow (fun s hs' => Or.inl (fun z => ?_))⟩
      have := Tr_w hB (by first | decide | omega) hlow hs'
      have := z.2
      omega
end
/-! the reference's loops over the items -/
section
variable {L : Nat} {xs : Nat → Int} {d : Nat} {S : AH}
theorem GU.n {h : Nat → Nat → Int} (H : GU h) : h 72 79 = (nIt h : Int) := by
  unfold nIt
  have := H.1
  omega
theorem set_bit {s k : Nat} (hs : s < 16384) (hk : k < 14) : iand (ishr (s : Int) (k : Int)) 1 = if s.testBit k then 1 else 0 := by
  have := ibit (s : Int) (k : Int) (by first | decide | omega) (by first | decide | omega) (by first | decide | omega) (by first | decide | omega)
  rw [this, Int.toNat_natCast, Int.toNat_natCast]
theorem m_hasFloors (hU : GU S.2) (s : Nat) (hs : s < 16384) : ∃ r : Int, ev (WK L xs) (d + 1) 274 [vr 72, vi s] S = some (r, S) ∧ (r = 0 ∨ r = 1) ∧ (r = 1 ↔ flO S.2 s) := by
  have hB := hU.itB
  have en := hU.n
  have key : ∀ (m k : Nat), k + m = nIt S.2 → (∀ j, j < k → S.2 132 j = 1 → s.testBit j = true) → ∃ r : Int, LQ (WK L xs) (ev (WK L xs) d) 274 2 [some (vr 72), some (vi s), some (vi (k : Int))] [] S = some (r, S) ∧ (r = 0 ∨ r = 1) ∧ (r = 1 ↔ flO S.2 s) := by
    intro m
    induction m with
    | zero =>
      intro k hk hp
      rw [q_274_2, en, if_neg (by first | decide | omega)]
      exact ⟨1, rfl, Or.inr rfl, fun _ j hj hf => hp j (by first | decide | omega) hf, fun _ => rfl⟩
    | succ m ih =>
      intro k hk hp
      have hf := (hU.2.2.1 k (by first | decide | omega)).2.2.2.2
      have hb1 := hB.1
      rw [q_274_2, en, if_pos (by first | decide | omega), if_pos (by first | decide | omega), Int.toNat_natCast, w32e (by first | decide | omega) (by first | decide | omega), set_bit hs (by first | decide | omega)]
      have e1 : (k : Int) + 1 = ((k + 1 : Nat) : Int) := by omega
      rw [e1]
      rcases hf with hf | hf
      · rw [if_pos hf]
        exact ih (k + 1) (by first | decide | omega) (fun j hj hq => by
          by_cases e : j = k
          · subst e; omega
          · exact hp j (by first | decide | omega) hq)
      · rw [if_neg (by first | decide | omega)]
        cases hb : s.testBit k with
        | true =>
          rw [if_neg (by simp)]
          exact ih (k + 1) (by first | decide | omega) (fun j hj hq => by
            by_cases e : j = k
            · subst e; exact hb
            · exact hp j (by first | decide | omega) hq)
        | false =>
          rw [if_pos (by simp)]
          refine ⟨0, rfl, Or.inl rfl, fun z => (by cases z), fun z => ?_⟩
          have := z k (by first | decide | omega) hf
          rw [hb] at this
          cases this
  rw [q_274]
  exact key (nIt S.2) 0 (by first | decide | omega) (fun j hj => by omega)
theorem m_sumOf (hU : GU S.2) (s : Nat) (hs : s < 16384) : ev (WK L xs) (d + 1) 275 [vr 72, vi s] S = some (sS S.2 s, S) := by
  have hB := hU.itB
  have en := hU.n
  have hb1 := hB.1
  have key : ∀ (m k : Nat), k + m = nIt S.2 → LQ (WK L xs) (ev (WK L xs) d) 275 5 [some (vr 72), some (vi s), some (vl (sm (fun j => if s.testBit j then S.2 130 j else 0) k)), none, some (vi (k : Int))] [] S = some (sS S.2 s, S) := by
    intro m
    induction m with
    | zero =>
      intro k hk
      rw [q_275_5, en, if_neg (by first | decide | omega)]
      have : k = nIt S.2 := by omega
      subst this
      rfl
    | succ m ih =>
      intro k hk
      have hv := sm_bd (f := fun j => if s.testBit j then S.2 130 j else 0) (M := 1000000000) (n := k + 1) (fun j hj => by
        have := hB.2.1 j (by first | decide | omega)
        split <;> omega)
      have hst : sm (fun j => if s.testBit j then S.2 130 j else 0) (k + 1) = sm (fun j => if s.testBit j then S.2 130 j else 0) k + (if s.testBit k then S.2 130 k else 0) := rfl
      have e1 : (k : Int) + 1 = ((k + 1 : Nat) : Int) := by omega
      rw [q_275_5, en, if_pos (by first | decide | omega), set_bit hs (by first | decide | omega), w32e (by first | decide | omega) (by first | decide | omega), e1, Int.toNat_natCast]
      cases hb : s.testBit k with
      | true =>
        rw [hb, if_pos rfl] at hst
        rw [if_pos (by simp), if_pos (by first | decide | omega), ← hst, w64e (by first | decide | omega) (by first | decide | omega)]
        exact ih (k + 1) (by first | decide | omega)
      | false =>
        rw [hb, if_neg (by decide)] at hst
        rw [if_neg (by simp), ← hst, w64e (by first | decide | omega) (by first | decide | omega)]
        exact ih (k + 1) (by first | decide | omega)
  rw [q_275]
  exact key (nIt S.2) 0 (by first | decide | omega)
theorem m_worthOf (hU : GU S.2) (s : Nat) (hs : s < 16384) : ev (WK L xs) (d + 1) 276 [vr 72, vi s] S = some (wS S.2 s, S) := by
  have hB := hU.itB
  have en := hU.n
  have hb1 := hB.1
  have key : ∀ (m k : Nat), k + m = nIt S.2 → LQ (WK L xs) (ev (WK L xs) d) 276 4 [some (vr 72), some (vi s), some (vi (sm (fun j => if s.testBit j then S.2 131 j else 0) k)), some (vi (k : Int))] [] S = some (wS S.2 s, S) := by
    intro m
    induction m with
    | zero =>
      intro k hk
      rw [q_276_4, en, if_neg (by first | decide | omega)]
      have : k = nIt S.2 := by omega
      subst this
      rfl
    | succ m ih =>
      intro k hk
      have hv := sm_bd (f := fun j => if s.testBit j then S.2 131 j else 0) (M := 1000000) (n := k + 1) (fun j hj => by
        have := hB.2.2 j (by first | decide | omega)
        split <;> omega)
      have hst : sm (fun j => if s.testBit j then S.2 131 j else 0) (k + 1) = sm (fun j => if s.testBit j then S.2 131 j else 0) k + (if s.testBit k then S.2 131 k else 0) := rfl
      have e1 : (k : Int) + 1 = ((k + 1 : Nat) : Int) := by omega
      rw [q_276_4, en, if_pos (by first | decide | omega), set_bit hs (by first | decide | omega), w32e (x := (k : Int) + 1) (by first | decide | omega) (by first | decide | omega), e1, Int.toNat_natCast]
      cases hb : s.testBit k with
      | true =>
        rw [hb, if_pos rfl] at hst
        rw [if_pos (by simp), if_pos (by first | decide | omega), ← hst, w32e (by first | decide | omega) (by first | decide | omega)]
        exact ih (k + 1) (by first | decide | omega)
      | false =>
        rw [hb, if_neg (by decide)] at hst
        rw [if_neg (by simp), ← hst, w32e (by first | decide | omega) (by first | decide | omega)]
        exact ih (k + 1) (by first | decide | omega)
  rw [q_276]
  exact key (nIt S.2) 0 (by first | decide | omega)
end
