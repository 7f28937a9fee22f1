/-! 40a.about -/
section
variable {L : Nat} {xs : Nat → Int} {d : Nat} {S S' : AH} {o : Nat}
theorem o_about (H : Inv S) (p q : Int) : Ok L xs 67 317 [vi p, vi q] S := by
  have gv := H.gv
  have hn := gv.1.1
  by_cases hp : 0 ≤ p ∧ p < S.2 72 40
  · obtain ⟨v, hv⟩ := Int.eq_ofNat_of_zero_le hp.1
    subst hv
    have hv80 : (v : Int) < 80 := by omega
    have e20 : w32 (20 + (v : Int)) = 20 + (v : Int) := tw20 hv80
    have e21 : (20 + (v : Int)).toNat = 20 + v := tn20 v
    have hq1 : 0 ≤ 20 + (v : Int) ∧ 20 + (v : Int) < 100 := th20 hv80
    obtain ⟨a1, a2, a3, a4, a5, a6, a7, a8, a9, a10, a11, a12, a13, a14, a15, a16⟩ := gv.2.2.2.1 v hp.2
    have h5 := a1.1
    have hq : (0 : Int) ≤ (v : Int) ∧ (v : Int) < 80 := by omega
    have h50 : ¬ auA S v = 0 := by omega
    obtain ⟨t1, t2⟩ := x_clauses (L := L) (xs := xs) (d := 198) a15
    have hg : ∀ r : Rs, gd (Nat.beq (shp (WK L xs) S (S.2 (auA S v) 5).toNat).1 19 && Nat.ble 0 8) r = r := fun r => by rw [t1]; rfl
    refine Ok.same (r := if q = 0 then S.2 97 v else if q = 1 then S.2 98 v else if q = 2 then S.2 99 v else if q = 3 then S.2 100 v else if q = 4 then S.2 78 (20 + v) else if q = 5 then S.2 101 v else if q = 6 then S.2 102 v else if q = 7 then S.2 104 v else -1) H ?_ ?_
    · rw [q_67, x_au gv hp.2, bR, Int.toNat_natCast, if_neg h50, g14a a1]
      simp only [k11 a1, rdvD h5, hg, t2, bR, a3, a4, a5, a6, a7, a8, a9, a10]
      by_cases hk : S.2 97 v = 1
      · simp only [if_pos hk]
        first | (simp only [itS]; done) | (simp only [itS]; rfl) | ((repeat' split) <;> rfl)
      · simp only [if_neg hk]
        first | (simp only [itS]; done) | (simp only [itS]; rfl) | ((repeat' split) <;> rfl)
    · rw [q_317, m_isAu gv.1, bR, e20]
      simp only [bi_0, if_pos hq, Int.toNat_natCast, e21]
      rw [if_neg (fun z => z hp), if_pos hq1]
      first | (simp only [itS]; done) | (simp only [itS]; rfl) | ((repeat' split) <;> rfl)
  · refine Ok.same (r := -1) H ?_ ?_
    · rw [q_67, x_au0 gv hp, bR, if_pos (by decide)]
    · rw [q_317, m_isAu gv.1, bR]
      simp only [bi_0]
      rw [if_pos hp]
end
