/-! what a text that was read holds -/
theorem nds_0 {t : TB} {n : Nat} : ∀ (k p : Nat) (v : Int), 0 ≤ v → 0 ≤ (nds t n k p v).2 := by
  intro k
  induction k with
  | zero => intro p v hv; exact hv
  | succ k ih =>
    intro p v hv
    show 0 ≤ (if dgt (cu t n p) = true then nds t n k (p + 1) (10 * v + cu t n p - 48) else (p, v)).2
    by_cases h : dgt (cu t n p) = true
    · rw [if_pos h]
      unfold dgt at h
      simp only [decide_eq_true_eq] at h
      exact ih _ _ (by first | decide | omega)
    · rw [if_neg h]
      exact hv
theorem rdN_bd {t : TB} {n p q : Nat} {most v : Int} (h : rdN t n most p = .inr (q, v)) : 0 ≤ v ∧ v ≤ most := by
  unfold rdN at h
  by_cases h1 : dgt (cu t n p) = false
  · rw [if_pos h1] at h; cases h
  · rw [if_neg h1] at h
    by_cases h2 : dgt (cu t n (nds t n 6 p 0).1) = true
    · rw [if_pos h2] at h; cases h
    · rw [if_neg h2] at h
      by_cases h3 : most < (nds t n 6 p 0).2
      · rw [if_pos h3] at h; cases h
      · rw [if_neg h3] at h
        have e : nds t n 6 p 0 = (q, v) := Sum.inr.inj h
        have := nds_0 (t := t) (n := n) 6 p 0 (by first | decide | omega)
        rw [e] at this h3
        exact ⟨this, by omega⟩
/-- what holds of each clause -/
noncomputable def KPr (t : TB) (n : Nat) (q : Nat × CL) : Prop := q.1 < n ∧ t q.1 = q.2.1 ∧ 0 ≤ q.2.2.1 ∧ q.2.2.1 ≤ 999999 ∧ (q.2.1 = 120 → q.2.2.1 ≤ 19 ∧ 0 ≤ q.2.2.2.1 ∧ q.2.2.2.1 ≤ 15)
theorem rdK_f {t : TB} {n many p q : Nat} {law : Bool} {c : CL} (h : rdK t n law many p = .inr (q, c)) : KPr t n (p, c) ∧ many ≠ 16 := by
  unfold rdK at h
  by_cases h1 : isWd (cu t n p) = false ∧ isLw (cu t n p) = false
  · rw [if_pos h1] at h; cases h
  · rw [if_neg h1] at h
    have hp : p < n ∧ t p = cu t n p := by
      by_cases z : p < n
      · exact ⟨z, by unfold cu; rw [if_pos z]⟩
      · exfalso
        apply h1
        have : cu t n p = 0 := by unfold cu; rw [if_neg z]
        rw [this]
        exact ⟨by decide, by decide⟩
    by_cases h2 : law = false ∧ isLw (cu t n p) = true
    · rw [if_pos h2] at h; cases h
    · rw [if_neg h2] at h
      by_cases h3 : many = 16
      · rw [if_pos h3] at h; cases h
      · rw [if_neg h3] at h
        refine ⟨?_, h3⟩
        by_cases h4 : isWd (cu t n p) = true
        · rw [if_pos h4] at h
          have hnx : cu t n p ≠ 120 := by
            intro z
            rw [z] at h4
            exact absurd h4 (by decide)
          by_cases h5 : cu t n (p + 1) = 40
          · rw [if_pos h5] at h
            cases hC : rdC t n (p + 2) with
            | inl e => rw [hC] at h; cases h
            | inr r =>
              obtain ⟨q1, g⟩ := r
              rw [hC] at h
              dsimp only at h
              by_cases h6 : cu t n q1 = 41
              · rw [if_pos h6] at h
                by_cases h7 : cu t n p = 115
                · rw [if_pos h7] at h
                  by_cases h8 : 49 ≤ cu t n (q1 + 1) ∧ cu t n (q1 + 1) ≤ 57
                  · rw [if_pos h8] at h
                    have e := Sum.inr.inj h
                    cases e
                    exact ⟨hp.1, by rw [hp.2, h7], by show 0 ≤ cu t n (q1 + 1) - 48; omega, by show cu t n (q1 + 1) - 48 ≤ 999999; omega, fun z => absurd (show (115 : Int) = 120 from z) (by decide)⟩
                  · rw [if_neg h8] at h; cases h
                · rw [if_neg h7] at h
                  have e := Sum.inr.inj h
                  cases e
                  exact ⟨hp.1, hp.2, by show (0 : Int) ≤ 0; omega, by show (0 : Int) ≤ 999999; omega, fun z => absurd z hnx⟩
              · rw [if_neg h6] at h; cases h
          · rw [if_neg h5] at h; cases h
        · rw [if_neg h4] at h
          by_cases h5 : cu t n p = 120
          · rw [if_pos h5] at h
            cases hN : rdN t n 19 (p + 1) with
            | inl e => rw [hN] at h; cases h
            | inr r =>
              obtain ⟨q1, v⟩ := r
              rw [hN] at h
              dsimp only at h
              by_cases h6 : cu t n q1 = 46
              · rw [if_pos h6] at h
                cases hM : rdN t n 15 (q1 + 1) with
                | inl e => rw [hM] at h; cases h
                | inr r =>
                  obtain ⟨q2, u⟩ := r
                  rw [hM] at h
                  dsimp only at h
                  have e := Sum.inr.inj h
                  cases e
                  have b1 := rdN_bd hN
                  have b2 := rdN_bd hM
                  exact ⟨hp.1, by rw [hp.2, h5], b1.1, by show v ≤ 999999; omega, fun _ => ⟨b1.2, b2.1, b2.2⟩⟩
              · rw [if_neg h6] at h; cases h
          · rw [if_neg h5] at h
            cases hN : rdN t n (if cu t n p = 109 ∨ cu t n p = 99 then 100 else 999999) (p + 1) with
            | inl e => rw [hN] at h; cases h
            | inr r =>
              obtain ⟨q1, v⟩ := r
              rw [hN] at h
              dsimp only at h
              have e := Sum.inr.inj h
              cases e
              have b1 := rdN_bd hN
              exact ⟨hp.1, hp.2, b1.1, by show v ≤ 999999; split at b1 <;> omega, fun z => absurd z h5⟩
theorem rdTL_f {t : TB} {n : Nat} {law : Bool} {x : TXT} : ∀ (k p : Nat) (acc : TXT), rdTL t n law k p acc = .inr x → (∀ q ∈ acc, KPr t n q) → ∀ q ∈ x, KPr t n q := by
  intro k
  induction k with
  | zero => intro p acc h; cases h
  | succ k ih =>
    intro p acc h ha
    have h' : (match rdK t n law acc.length p with
      | .inl e => (.inl e : Int ⊕ TXT)
      | .inr (q, c) => if q < n then (if cu t n q = 59 then rdTL t n law k (q + 1) (acc ++ [(p, c)]) else .inl (flt 1 q)) else .inr (acc ++ [(p, c)])) = .inr x := h
    cases hK : rdK t n law acc.length p with
    | inl e => rw [hK] at h'; cases h'
    | inr r =>
      obtain ⟨q, c⟩ := r
      have hn : ∀ z ∈ acc ++ [(p, c)], KPr t n z := by
        intro z hz
        rcases List.mem_append.mp hz with hz | hz
        · exact ha z hz
        · rw [List.mem_singleton.mp hz]
          exact (rdK_f hK).1
      rw [hK] at h'
      dsimp only at h'
      by_cases h1 : q < n
      · rw [if_pos h1] at h'
        by_cases h2 : cu t n q = 59
        · rw [if_pos h2] at h'
          exact ih _ _ h' hn
        · rw [if_neg h2] at h'; cases h'
      · rw [if_neg h1] at h'
        have e := Sum.inr.inj h'
        rw [← e]
        exact hn
section
variable {L : Nat} {xs : Nat → Int} {d : Nat} {S S' : AH} {o : Nat}
/-- the clause j of a text, on both sides -/
theorem TX.cl {a t : Nat} (H : TX S a t) {j : Nat} (hj : (j : Int) < S.2 78 t) : j < 16 ∧ (0 ≤ S.2 80 (16 * t + j) ∧ S.2 80 (16 * t + j) ≤ 999999) ∧ (S.2 79 (16 * t + j) = 120 → S.2 80 (16 * t + j) ≤ 19 ∧ 0 ≤ S.2 81 (16 * t + j) ∧ S.2 81 (16 * t + j) ≤ 15) ∧ (∀ d, ev (WK L xs) (d + 2) 162 [vr a, vi (j : Int)] S = some (S.2 79 (16 * t + j), S)) ∧ ∀ d, ev (WK L xs) (d + 1) 164 [vr a, vi (j : Int)] S = some (if S.2 79 (16 * t + j) = 120 then S.2 80 (16 * t + j) * 16 + S.2 81 (16 * t + j) else S.2 80 (16 * t + j), S) := by
  obtain ⟨x, ⟨h1, h2, h3, -⟩, hx⟩ := H
  have hjl : j < x.length := by omega
  rcases hx with ⟨e1, e2⟩ | ⟨b1, b, s, v, n, b2, b3, b4, b5, b6, b7, b8, b9, b10⟩
  · subst e2
    exact absurd hjl (by simp)
  · obtain ⟨q, hq⟩ : ∃ q, x[j]? = some q := ⟨x[j], List.getElem?_eq_getElem hjl⟩
    have hK : KPr (byt S.2 b) n q := rdTL_f 17 0 [] b9 (fun _ z => by cases z) q (List.mem_of_getElem? hq)
    obtain ⟨k1, k2, k3, k4, k5⟩ := hK
    obtain ⟨c1, c2, c3, -⟩ := h3 j q hq
    obtain ⟨d1, d2⟩ := b10 j q hq
    have c1' : S.2 79 (16 * t + j) = q.2.1 := c1
    have c2' : S.2 80 (16 * t + j) = q.2.2.1 := c2
    have c3' : S.2 81 (16 * t + j) = q.2.2.2.1 := c3
    have hs : shp (WK L xs) S a = (19, 3) := by rw [shpD b1.1]; exact b1.2.2
    have hss : shp (WK L xs) S s = (2, x.length) := by rw [shpD b6.1]; exact b6.2.2
    have hsv : shp (WK L xs) S v = (2, x.length) := by rw [shpD b7.1]; exact b7.2.2
    have hsb : shp (WK L xs) S b = (0, n) := by rw [shpD b5.1]; exact b5.2.2
    rw [c1', c2', c3']
    refine ⟨by omega, ⟨k3, k4⟩, k5, fun d => ?_, fun d => ?_⟩
    · have h163 : ev (WK L xs) (d + 1) 163 [vr a, vi (j : Int)] S = some ((q.1 : Int), S) := by
        rw [q_163, if_neg (by first | decide | omega), hs, rdvD b1.1, rdvD b1.1, b3, Int.toNat_natCast, hss]
        show gd true (gd true (if (j : Int) < (x.length : Int) then gd true (gd true (if 0 ≤ (j : Int) ∧ (j : Int) < (x.length : Int) then some (rdv (WK L xs) S s (j : Int).toNat, S) else none)) else _)) = _
        rw [gdT, gdT, if_pos (by first | decide | omega), gdT, gdT, if_pos (by first | decide | omega), rdvD b6.1, Int.toNat_natCast, d1]
      rw [q_162, hs, h163, bR, if_neg (by first | decide | omega), hs, rdvD b1.1, b2, Int.toNat_natCast, hsb]
      show gd true (gd true (gd true (if (q.1 : Int) < (n : Int) then gd true (gd true (if 0 ≤ (q.1 : Int) ∧ (q.1 : Int) < (n : Int) then some (iand (rdv (WK L xs) S b (q.1 : Int).toNat) 255, S) else none)) else _))) = _
      rw [gdT, gdT, gdT, if_pos (by first | decide | omega), gdT, gdT, if_pos (by first | decide | omega), rdvD b5.1, Int.toNat_natCast]
      congr 2
    · rw [q_164, if_neg (by first | decide | omega), hs, rdvD b1.1, b4, Int.toNat_natCast, hsv]
      show gd true (gd true (if (j : Int) < (x.length : Int) then gd true (gd true (if 0 ≤ (j : Int) ∧ (j : Int) < (x.length : Int) then some (rdv (WK L xs) S v (j : Int).toNat, S) else none)) else _)) = _
      rw [gdT, gdT, if_pos (by first | decide | omega), gdT, gdT, if_pos (by first | decide | omega), rdvD b7.1, Int.toNat_natCast, d2]
      rfl
end
