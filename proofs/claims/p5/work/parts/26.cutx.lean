/-! the class's search -/
noncomputable def D50 (S S' : AH) : Prop := S'.1 = S.1 ∧ ∀ a k, ¬ (a = 50 ∧ 5 ≤ k) → S'.2 a k = S.2 a k
theorem D50.rf {S : AH} : D50 S S := ⟨rfl, fun _ _ _ => rfl⟩
theorem D50.tr {S T U : AH} (h : D50 S T) (k : D50 T U) : D50 S U := ⟨k.1.trans h.1, fun a b q => (k.2 a b q).trans (h.2 a b q)⟩
theorem D50.cell {S S' : AH} (h : D50 S S') {a : Nat} (ha : a ≠ 50) : S'.2 a = S.2 a := funext fun k => h.2 a k (fun q => ha q.1)
theorem D50.wr {S : AH} {k : Nat} {v : Int} (hk : 5 ≤ k) : D50 S (wr S 50 k v) := ⟨rfl, fun a j q => by rw [wr_2, if_neg (fun z => q ⟨z.1, by omega⟩)]⟩
theorem GU.itB {h : Nat → Nat → Int} (H : GU h) : itB h := by
  obtain ⟨⟨u1, u2⟩, u3, u4, -⟩ := H
  refine ⟨by unfold nIt; omega, fun k hk => (u4 k (by unfold nIt at hk; omega)).2.2.1, fun k hk => (u4 k (by unfold nIt at hk; omega)).2.2.2.1⟩
/-- the best that is kept -/
noncomputable def Bst (h0 : Nat → Nat → Int) (S : AH) (b : Int) : Prop := S.2 50 5 = b ∧ ∀ m : Nat, b = m → S.2 50 6 = sS h0 m ∧ S.2 50 7 = wS h0 m
section
variable {L : Nat} {xs : Nat → Int} {S0 : AH}
theorem fl_bit {S : AH} (hU : GU S0.2) (hD : D50 S0 S) {j : Nat} (hj : j < nIt S0.2) : iand (ishr (S.2 50 3) j) 1 = 0 ↔ S0.2 132 j ≠ 1 := by
  obtain ⟨⟨u1, u2⟩, u3, u4, u5, ⟨u6, u7⟩, u8⟩ := hU
  have hj2 : (j : Int) < S0.2 72 79 := by unfold nIt at hj; omega
  have hb : S0.2 50 3 < 16384 := by
    have h1 : (2 : Nat) ^ (S0.2 72 79).toNat ≤ 2 ^ 14 := Nat.pow_le_pow_right (by decide) (by first | decide | omega)
    have h2 : (2 : Int) ^ (S0.2 72 79).toNat = ((2 ^ (S0.2 72 79).toNat : Nat) : Int) := by simp
    omega
  have e : S.2 50 3 = S0.2 50 3 := hD.2 50 3 (by first | decide | omega)
  have hi := ibit (S0.2 50 3) (j : Int) u6 (by first | decide | omega) (by first | decide | omega) (by first | decide | omega)
  rw [e, hi, Int.toNat_natCast, u8 j hj2]
  by_cases q : S0.2 132 j = 1
  · simp [q]
  · simp [q]
theorem x_choose (hU : GU S0.2) (tot : Int) (d : Nat) : ∀ (i P : Nat) (A : Nat → Prop) (b : Int) (S : AH), i ≤ nIt S0.2 → P < 16384 → noLow P i → (∀ k, i ≤ k → k < nIt S0.2 → S0.2 132 k = 1 → P.testBit k = true) → (∀ m, A m → ∀ s, Tr P i s → s < m) → D50 S0 S → Bst S0.2 S b → IsB S0.2 tot A b →
    ∃ S' b', ev (WK L xs) (d + i + 2) 96 [vr 50, vi ((i : Int) - 1), vl tot, vl (sS S0.2 P), vl (wS S0.2 P), vi (P : Int)] S = some (0, S') ∧ D50 S0 S' ∧ Bst S0.2 S' b' ∧ IsB S0.2 tot (fun s => A s ∨ Tr P i s) b' := by
  have hB := hU.itB
  have hn := hB.1
  intro i
  induction i with
  | zero =>
    intro P A b S hi hP hlow hfl hord hD hb hI
    have hs := sS_bd hB P
    have hw := wS_bd hB P
    have key : (∃ m : Nat, b = m ∧ (wS S0.2 P < wS S0.2 m ∨ (wS S0.2 P = wS S0.2 m ∧ sS S0.2 m < sS S0.2 P))) ∨ ¬ (∃ m : Nat, b = m ∧ (wS S0.2 P < wS S0.2 m ∨ (wS S0.2 P = wS S0.2 m ∧ sS S0.2 m < sS S0.2 P))) := Classical.em _
    have e53 : S.2 53 0 = 0 := by
      rw [hD.cell (by decide), hU.2.2.2.1 0 (by have := hU.1; omega)]
      rfl
    by_cases h1 : tot < sS S0.2 P
    · refine ⟨S, b, ?_, hD, hb, hI.grow (fun s hs' => Or.inl (fun hc => ?_))⟩
      · rw [q_96, if_pos (lc_gt.mpr h1)]
      · have := Tr_s hB hlow hs'
        have := hc.2
        omega
    · have hleaf : ∀ D : Nat, LQ (WK L xs) (ev (WK L xs) D) 96 45 [some (vr 50), some (vi (((0 : Nat) : Int) - 1)), some (vl tot), none, some (vl (sS S0.2 P)), none, some (vl (wS S0.2 P)), none, some (vi (P : Int))] [] S = some (0, wr (wr (wr S 50 5 P) 50 6 (sS S0.2 P)) 50 7 (wS S0.2 P)) := by
        intro D
        rw [q_96_45, if_pos (by first | decide | omega)]
      have htake : (b = -1 ∨ ∃ m : Nat, b = m ∧ btr S0.2 P m) → ∃ S' b', some ((0 : Int), wr (wr (wr S 50 5 P) 50 6 (sS S0.2 P)) 50 7 (wS S0.2 P)) = some (0, S') ∧ D50 S0 S' ∧ Bst S0.2 S' b' ∧ IsB S0.2 tot (fun s => A s ∨ Tr P 0 s) b' := by
        intro hbt
        refine ⟨_, P, rfl, ((hD.tr (D50.wr (by decide))).tr (D50.wr (by decide))).tr (D50.wr (by decide)), ⟨?_, fun m hm => ?_⟩, (hI.take ⟨fun k hk hf => hfl k (by first | decide | omega) hk hf, by omega⟩ hbt).ext (fun s => by rw [Tr_0])⟩
        · simp [wr_f]
        · have : m = P := by omega
          subst this
          simp [wr_f]
      rw [q_96, if_neg (fun z => h1 (lc_gt.mp z)), if_pos (by first | decide | omega), hb.1]
      by_cases hb1 : b = -1
      · rw [if_pos hb1, hleaf]
        exact htake (Or.inl hb1)
      · rw [if_neg hb1, w32e (by first | decide | omega) (by first | decide | omega), if_pos (by first | decide | omega)]
        have hz : (((0 : Nat) : Int) - 1 + 1).toNat = 0 := by omega
        rw [hz, e53, q_97, w64e (by first | decide | omega) (by first | decide | omega)]
        have hI2 := hI
        rcases hI with ⟨e1, -⟩ | ⟨m, e1, a1, c1, q1⟩
        · exact absurd e1 hb1
        · obtain ⟨g1, g2⟩ := hb.2 m e1
          simp only [lc_lt, lc_gt, lc_eq, g1, g2, Int.add_zero]
          have hPm : P < m := hord m a1 P (Tr_0.mpr rfl)
          by_cases k1 : wS S0.2 P < wS S0.2 m
          · rw [if_pos k1]
            refine ⟨S, b, rfl, hD, hb, hI2.grow (fun s hs' => Or.inr ⟨m, e1, ?_⟩)⟩
            have := Tr_0.mp hs'
            subst this
            unfold btr
            omega
          · rw [if_neg k1]
            by_cases k2 : wS S0.2 P = wS S0.2 m
            · rw [if_pos k2]
              by_cases k3 : sS S0.2 m < sS S0.2 P
              · rw [if_pos k3]
                refine ⟨S, b, rfl, hD, hb, hI2.grow (fun s hs' => Or.inr ⟨m, e1, ?_⟩)⟩
                have := Tr_0.mp hs'
                subst this
                unfold btr
                omega
              · rw [if_neg k3]
                simp only [bR, if_true]
                rw [hleaf]
                exact htake (Or.inr ⟨m, e1, by unfold btr; omega⟩)
            · rw [if_neg k2]
              simp only [bR, if_true]
              rw [hleaf]
              exact htake (Or.inr ⟨m, e1, by unfold btr; omega⟩)
  | succ j ih =>
    intro P A b S hi hP hlow hfl hord hD hb hI
    have hs := sS_bd hB P
    have hw := wS_bd hB P
    have hpj : P.testBit j = false := hlow j (by first | decide | omega)
    have hP2 : P ||| 2 ^ j < 16384 := Nat.or_lt_two_pow (n := 14) hP (Nat.pow_lt_pow_right (by decide) (by first | decide | omega))
    have hwb : 0 ≤ sm (S0.2 131) (j + 1) ∧ sm (S0.2 131) (j + 1) ≤ ((j + 1 : Nat) : Int) * 1000000 := sm_bd (fun k hk => hB.2.2 k (by first | decide | omega))
    have e53 : S.2 53 (j + 1) = sm (S0.2 131) (j + 1) := by
      rw [hD.cell (by decide), hU.2.2.2.1 (j + 1) (by have := hU.1; unfold nIt at hi; omega)]
    have hj4 := hU.2.2.1 j (by have := hU.1; unfold nIt at hi; omega)
    have e51 : S.2 51 j = S0.2 130 j := by rw [hD.cell (by decide), hj4.1]
    have e52 : S.2 52 j = S0.2 131 j := by rw [hD.cell (by decide), hj4.2.1]
    have hs2 := sS_bd hB (P ||| 2 ^ j)
    have hw2 := wS_bd hB (P ||| 2 ^ j)
    rw [with_s (by first | decide | omega) hpj] at hs2
    rw [with_w (by first | decide | omega) hpj] at hw2
    -- both branches
    have hgo : ∃ S' b', LQ (WK L xs) (ev (WK L xs) (d + j + 2)) 96 45 [some (vr 50), some (vi (((j + 1 : Nat) : Int) - 1)), some (vl tot), none, some (vl (sS S0.2 P)), none, some (vl (wS S0.2 P)), none, some (vi (P : Int))] [] S = some (0, S') ∧ D50 S0 S' ∧ Bst S0.2 S' b' ∧ IsB S0.2 tot (fun s => A s ∨ Tr P (j + 1) s) b' := by
      obtain ⟨S2, b2, r1, r2, r3, r4⟩ := ih (P ||| 2 ^ j) A b S (by first | decide | omega) hP2 (fun k hk => by rw [bit_set hpj, decide_eq_false (by first | decide | omega), Bool.false_or]; exact hlow k (by first | decide | omega)) (fun k hk hk2 hf => by
        rw [bit_set hpj]
        by_cases e : j = k
        · simp [e]
        · rw [hfl k (by first | decide | omega) hk2 hf]
          simp) (fun m hm s hs' => hord m hm s ((Tr_split hlow s).mpr (Or.inl hs'))) hD hb hI
      have ej : ((j + 1 : Nat) : Int) - 1 = j := by omega
      have eor : ior (P : Int) (ishl 1 (j : Int)) = ((P ||| 2 ^ j : Nat) : Int) := by rw [ishl_n j (by first | decide | omega), ior_n P (2 ^ j) (by first | decide | omega) (by have := Nat.right_le_or (n := P) (m := 2 ^ j); omega)]
      rw [q_96_45, ej, if_neg (by first | decide | omega), if_pos (by first | decide | omega), if_pos (by first | decide | omega), Int.toNat_natCast, e51, e52, eor, w64e (x := sS S0.2 P + S0.2 130 j) (by first | decide | omega) (by first | decide | omega), w64e (x := wS S0.2 P + S0.2 131 j) (by first | decide | omega) (by first | decide | omega), ← with_s (by first | decide | omega) hpj, ← with_w (by first | decide | omega) hpj, w32e (by first | decide | omega) (by first | decide | omega), r1, bR]
      by_cases hf : S0.2 132 j = 1
      · rw [if_neg (fun z => (fl_bit hU r2 (by first | decide | omega)).mp z hf)]
        refine ⟨S2, b2, rfl, r2, r3, (r4.grow (B := Tr P j) (fun s hs' => Or.inl (fun hc => ?_))).ext (fun s => ?_)⟩
        · have := hc.1 j (by first | decide | omega) hf
          rw [hs' j (Nat.le_refl _), hpj] at this
          cases this
        · rw [Tr_split hlow s]
          exact or_assoc
      · rw [if_pos ((fl_bit hU r2 (by first | decide | omega)).mpr hf)]
        obtain ⟨S3, b3, t1, t2, t3, t4⟩ := ih P (fun s => A s ∨ Tr (P ||| 2 ^ j) j s) b2 S2 (by first | decide | omega) hP (fun k hk => hlow k (by first | decide | omega)) (fun k hk hk2 hf2 => by
          by_cases e : k = j
          · subst e
            exact absurd hf2 hf
          · exact hfl k (by first | decide | omega) hk2 hf2) (fun m hm s hs' => by
          rcases hm with hm | hm
          · exact hord m hm s ((Tr_split hlow s).mpr (Or.inr hs'))
          · exact Tr_lt hpj hs' hm) r2 r3 r4
        rw [t1, bR]
        refine ⟨S3, b3, rfl, t2, t3, t4.ext (fun s => ?_)⟩
        rw [Tr_split hlow s]
        exact or_assoc
    have ed : d + (j + 1) + 2 = (d + j + 2) + 1 := by omega
    rw [ed]
    by_cases h1 : tot < sS S0.2 P
    · refine ⟨S, b, ?_, hD, hb, hI.grow (fun s hs' => Or.inl (fun hc => ?_))⟩
      · rw [q_96, if_pos (lc_gt.mpr h1)]
      · have := Tr_s hB hlow hs'
        have := hc.2
        omega
    · rw [q_96, if_neg (fun z => h1 (lc_gt.mp z)), if_pos (by first | decide | omega), hb.1]
      by_cases hb1 : b = -1
      · rw [if_pos hb1]
        exact hgo
      · rw [if_neg hb1, w32e (by first | decide | omega) (by first | decide | omega), if_pos (by first | decide | omega)]
        have hz : (((j + 1 : Nat) : Int) - 1 + 1).toNat = j + 1 := by omega
        rw [hz, e53, q_97, w64e (by first | decide | omega) (by first | decide | omega)]
        have hI2 := hI
        rcases hI with ⟨e1, -⟩ | ⟨m, e1, a1, c1, q1⟩
        · exact absurd e1 hb1
        · obtain ⟨g1, g2⟩ := hb.2 m e1
          simp only [lc_lt, lc_gt, lc_eq, g1, g2]
          have hpr : (wS S0.2 P + sm (S0.2 131) (j + 1) < wS S0.2 m ∨ (wS S0.2 P + sm (S0.2 131) (j + 1) = wS S0.2 m ∧ sS S0.2 m < sS S0.2 P)) → IsB S0.2 tot (fun s => A s ∨ Tr P (j + 1) s) b := by
            intro hk
            refine hI2.grow (fun s hs' => Or.inr ⟨m, e1, ?_⟩)
            have v1 := Tr_w hB (by first | decide | omega) hlow hs'
            have v2 := Tr_s hB hlow hs'
            unfold btr
            omega
          by_cases k1 : wS S0.2 P + sm (S0.2 131) (j + 1) < wS S0.2 m
          · rw [if_pos k1]
            exact ⟨S, b, rfl, hD, hb, hpr (Or.inl k1)⟩
          · rw [if_neg k1]
            by_cases k2 : wS S0.2 P + sm (S0.2 131) (j + 1) = wS S0.2 m
            · rw [if_pos k2]
              by_cases k3 : sS S0.2 m < sS S0.2 P
              · rw [if_pos k3]
                exact ⟨S, b, rfl, hD, hb, hpr (Or.inr ⟨k2, k3⟩)⟩
              · rw [if_neg k3]
                simp only [bR, if_true]
                exact hgo
            · rw [if_neg k2]
              simp only [bR, if_true]
              exact hgo
end
