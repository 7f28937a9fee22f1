/-! look, about, sign -/
section
variable {L : Nat} {xs : Nat → Int} {d : Nat} {S S' : AH} {o : Nat}
theorem itS {P : Prop} [Decidable P] {a b : Int} {S : AH} : (some ((if P then a else b), S) : Rs) = if P then some (a, S) else some (b, S) := by
  by_cases h : P
  · rw [if_pos h, if_pos h]
  · rw [if_neg h, if_neg h]
theorem m_cby (H : Inv S) {c : Nat} (hc : (c : Int) < S.2 72 52) : ev (WK L xs) (d + 1) 249 [vr 72, vi (c : Int)] S = some (cby S.2 c, S) := by
  have hn := H.gk.n
  obtain ⟨r1, r2, r3, r4, r5, r6, r7, -⟩ := H.gk.1.2.2.2.1 c hc
  have hv := H.gv.1.1
  have hq : (0 : Int) ≤ (c : Int) ∧ (c : Int) < 300 := by omega
  rw [q_249]
  simp only [if_pos hq, Int.toNat_natCast]
  unfold cby
  by_cases h1 : S.2 116 c = -1
  · rw [if_pos h1, if_neg (fun z => z.1 h1)]
  · have hb : 0 ≤ S.2 116 c ∧ S.2 116 c < 80 := by omega
    rw [if_neg h1, if_pos hb, if_pos hb, if_pos hb]
    by_cases h2 : S.2 97 (S.2 116 c).toNat = 4
    · rw [if_pos h2]
      by_cases h3 : S.2 102 (S.2 116 c).toNat = -1
      · rw [if_pos h3, if_neg (fun z => z.2.2 h3)]
      · rw [if_neg h3, if_pos ⟨h1, h2, h3⟩]
    · rw [if_neg h2, if_neg (fun z => h2 z.2.1)]
theorem o_look (H : Inv S) (p q : Int) : Ok L xs 66 316 [vi p, vi q] S := by
  have gk := H.gk
  have hn := gk.n
  by_cases hp : 0 ≤ p ∧ p < S.2 72 52
  · obtain ⟨c, hc⟩ := Int.eq_ofNat_of_zero_le hp.1
    subst hc
    have ho := gk.ob hp.2
    have h5 := ho.1
    obtain ⟨a1, a2, a3, a4, a5, a6, a7, a8, a9, a10, a11, a12, a13, a14, a15, a16⟩ := gk.2.2.2.2.1 c hp.2
    have hq : (0 : Int) ≤ (c : Int) ∧ (c : Int) < 300 := by omega
    refine Ok.same (r := if q = 0 then S.2 108 c else if q = 1 then S.2 109 c else if q = 2 then S.2 110 c else if q = 3 then S.2 111 c else if q = 4 then S.2 112 c else if q = 5 then (if S.2 113 c = 0 then 0 else 1) else if q = 6 then S.2 114 c else if q = 7 then S.2 115 c else if q = 8 then cby S.2 c else if q = 9 then S.2 118 c else -1) H ?_ ?_
    · rw [q_66, x_cl gk hp.2, bR, Int.toNat_natCast, if_neg (by first | decide | omega), g14 ho]
      simp only [k12 ho, rdvD h5, a2, a3, a4, a5, a6, a7, a8, a9, a11, a12]
      first | (simp only [itS]; done) | (simp only [itS]; rfl) | ((repeat' split) <;> rfl)
    · rw [q_316, m_isClaim gk.1, bR]
      simp only [bi_0, if_pos hq, Int.toNat_natCast, m_cby H hp.2, bR]
      rw [if_neg (fun z => z hp)]
      first | (simp only [itS]; done) | (simp only [itS]; rfl) | ((repeat' split) <;> rfl)
  · refine Ok.same (r := -1) H ?_ ?_
    · rw [q_66, x_cl0 gk hp, bR, if_pos (by decide)]
    · rw [q_316, m_isClaim gk.1, bR]
      simp only [bi_0]
      rw [if_pos hp]
theorem g14a (h : isO S o 11 14) (r : Rs) : gd (!(Nat.beq o 14)) r = r := by
  have : Nat.beq o 14 = false := by
    cases e : Nat.beq o 14 with
    | false => rfl
    | true =>
      have := Nat.eq_of_beq_eq_true e
      have := h.1
      omega
  rw [this]
  rfl
theorem k11 (h : isO S o 11 14) (r : Rs) : gd (Nat.beq (shp (WK L xs) S o).1 11) r = r := by
  rw [shpD h.1, h.2.2]
  rfl
theorem x_au (H : GV S) {v : Nat} (hv : (v : Int) < S.2 72 40) : ev (WK L xs) (d + 1) 168 [vr 36, vi (v : Int)] S = some ((auA S v : Int), S) := by
  have := H.1.1
  rw [q_168, H.2.1, if_neg (by first | decide | omega), if_pos hv, if_pos (by first | decide | omega), Int.toNat_natCast]
  rfl
theorem x_au0 (H : GV S) {p : Int} (hc : ¬ (0 ≤ p ∧ p < S.2 72 40)) : ev (WK L xs) (d + 1) 168 [vr 36, vi p] S = some (0, S) := by
  rw [q_168, H.2.1]
  by_cases h : p < 0
  · rw [if_pos h]
  · rw [if_neg h, if_neg (by first | decide | omega)]
theorem m_isAu (H : RV S.2) (p : Int) : ev (WK L xs) (d + 2) 241 [vr 72, vi p] S = some (bi (0 ≤ p ∧ p < S.2 72 40), S) := by
  have := H.1
  rw [q_241, m_lies, bR, w32e (by first | decide | omega) (by first | decide | omega), if_pos (by rw [bi_01]; trivial)]
  congr 2
  apply bi_iff
  omega
theorem x_clauses {a t : Nat} (H : TX S a t) : Nat.beq (shp (WK L xs) S a).1 19 = true ∧ ev (WK L xs) (d + 1) 161 [vr a] S = some (S.2 78 t, S) := by
  obtain ⟨x, ⟨h1, -⟩, h2⟩ := H
  rcases h2 with ⟨e1, e2⟩ | ⟨b1, b, s, v, n, b2, b3, b4, b5, b6, b7, b8, b9, b10⟩
  · subst e1 e2
    refine ⟨rfl, ?_⟩
    rw [q_161, h1]
    rfl
  · have hs : shp (WK L xs) S a = (19, 3) := by rw [shpD b1.1]; exact b1.2.2
    refine ⟨by rw [hs]; rfl, ?_⟩
    rw [q_161, hs, rdvD b1.1, b3, Int.toNat_natCast, shpD b6.1, b6.2.2, h1]
    rfl
theorem tw20 {v : Nat} (h : (v : Int) < 80) : w32 (20 + (v : Int)) = 20 + (v : Int) := w32e (by first | decide | omega) (by first | decide | omega)
theorem tn20 (v : Nat) : (20 + (v : Int)).toNat = 20 + v := by omega
theorem th20 {v : Nat} (h : (v : Int) < 80) : 0 ≤ 20 + (v : Int) ∧ 20 + (v : Int) < 100 := by omega
end
