/-! calls: now, head, under, hand, count -/
section
variable {L : Nat} {xs : Nat → Int} {d : Nat} {S : AH}
theorem Inv.gt (H : Inv S) : GT S.2 := H.2.1
theorem Inv.gc (H : Inv S) : GC S.2 := H.2.2.1
theorem Inv.gx (H : Inv S) : GX S.2 := H.2.2.2.1
theorem Inv.gb (H : Inv S) : GB S.2 := H.2.2.2.2.1
theorem Inv.gp (H : Inv S) : GP S.2 := H.2.2.2.2.2.1
theorem Inv.gl (H : Inv S) : GL S := H.2.2.2.2.2.2.1
theorem Inv.gv (H : Inv S) : GV S := H.2.2.2.2.2.2.2.1
theorem Inv.gk (H : Inv S) : GK S := H.2.2.2.2.2.2.2.2.1
theorem Inv.gu (H : Inv S) : GU S.2 := H.2.2.2.2.2.2.2.2.2.1
theorem Inv.gw (H : Inv S) : GW S.2 := H.2.2.2.2.2.2.2.2.2.2.1
theorem Inv.gn (H : Inv S) : GN S.2 := H.2.2.2.2.2.2.2.2.2.2.2
theorem Ok.same {mx mm : Nat} {as : List TV} {r : Int} (H : Inv S) (h1 : ev (WK L xs) 200 mx (vr 15 :: as) S = some (r, S)) (h2 : ev (WK L xs) 200 mm (vr 72 :: as) S = some (r, S)) : Ok L xs mx mm as S := ⟨r, S, S, h1, h2, H, Gw.rf⟩
theorem some_ite {P : Prop} [Decidable P] {a b : Rs} (h1 : ∃ r, a = some (r, S)) (h2 : ∃ r, b = some (r, S)) : ∃ r, (if P then a else b) = some (r, S) := by
  by_cases h : P
  · rw [if_pos h]; exact h1
  · rw [if_neg h]; exact h2
theorem o_now (H : Inv S) (p : Int) : Ok L xs 2 194 [vi p] S := by
  obtain ⟨t1, t2, t3⟩ := H.gt
  by_cases hc : S.2 72 2 ≤ p ∧ p ≤ 3599
  · refine ⟨1, wr S 15 0 p, wr (wr S 15 0 p) 72 2 p, ?_, ?_, ?_, Gw.of rfl⟩
    · rw [q_2, x_isDay]
      simp only [bR, bi_0]
      rw [if_neg (by first | decide | omega), if_neg (by first | decide | omega)]
    · rw [q_194, m_lies]
      simp only [bR, bi_0]
      rw [if_neg]
      simp [wr_c]
      omega
    · refine Inv.upd H ?_ (fun a ha => ?_) (fun k hk => ?_) ?_ ?_ ?_ ?_ ?_ ?_ ?_ ?_ ?_
      · repeat' first | exact Fr.rf | exact Fr.wr (by decide) | refine Fr.tr ?_ (Fr.wr (by decide))
      · unfold lvk at ha
        repeat rw [wr_c (by first | decide | omega)]
      · unfold lvf at hk
        rcases hk with rfl | rfl | rfl | rfl | rfl | rfl <;> simp [wr_c, wr_f]
      · simp [HM, wr_c, wr_f]
      · simp [GT, wr_c, wr_f]
        omega
      · exact H.gc.fr (by simp [wr_c, wr_f]) (by simp [wr_c, wr_f])
      · exact H.gx.fr (by simp [wr_c, wr_f]) (by simp [wr_c, wr_f])
      · exact H.gb.fr (by simp [wr_c, wr_f]) (by simp [wr_c, wr_f]) (by simp [wr_c, wr_f]) (by simp [wr_c, wr_f])
      · exact H.gp.fr (by simp [wr_c, wr_f]) (by simp [wr_c, wr_f]) (fun a ha => by repeat rw [wr_c (by first | decide | omega)])
      · exact H.gu.fr (by simp [wr_c, wr_f]) (by simp [wr_c, wr_f]) (by simp [wr_c, wr_f]) (fun a ha => by repeat rw [wr_c (by first | decide | omega)])
      · exact H.gw.fr (by simp [wr_c, wr_f]) (by simp [wr_c, wr_f]) (by simp [wr_c, wr_f]) (by simp [wr_c, wr_f]) (fun a ha => by repeat rw [wr_c (by first | decide | omega)])
      · exact H.gn.fr (by simp [wr_c, wr_f]) (by simp [wr_c, wr_f]) (by simp [wr_c, wr_f]) (by simp [wr_c, wr_f]) (by simp [wr_c, wr_f]) (by simp [wr_c, wr_f]) (fun a ha => by repeat rw [wr_c (by first | decide | omega)])
  · refine Ok.same (r := 0) H ?_ ?_
    · rw [q_2, x_isDay]
      simp only [bR, bi_0]
      by_cases h2 : ¬ (0 ≤ p ∧ p < 3600)
      · rw [if_pos h2]
      · rw [if_neg h2, if_pos (by first | decide | omega)]
    · rw [q_194, m_lies]
      simp only [bR, bi_0]
      rw [if_pos hc]
theorem o_under (H : Inv S) (a b : Int) : Ok L xs 5 198 [vi a, vi b] S := by
  have hP := H.gp
  have hR := hP.1
  have e1 := hP.2.1
  by_cases ha : 0 ≤ a ∧ a < S.2 72 4
  · by_cases hb : 0 ≤ b ∧ b < S.2 72 4
    · refine Ok.same (r := bi (uN S.2 a b = true)) H ?_ ?_
      · rw [q_5]
        simp only [x_isHead, x_isUnder hP, bR, bi_0, e1]
        rw [if_neg (fun q => q ha), if_neg (fun q => q hb), ite_bin]
        congr 2
        apply bi_iff
        simp [ha, hb]
      · rw [q_198]
        simp only [m_isHead hR, m_isUnder hR a b ha.1 ha.2 hb.1, bR, bi_0]
        rw [if_neg (fun q => q ha), if_neg (fun q => q hb), ite_bin]
        congr 2
        apply bi_iff
        simp
    · refine Ok.same (r := -1) H ?_ ?_
      · rw [q_5]
        simp only [x_isHead, bR, bi_0, e1]
        rw [if_neg (fun q => q ha), if_pos hb]
      · rw [q_198]
        simp only [m_isHead hR, bR, bi_0]
        rw [if_neg (fun q => q ha), if_pos hb]
  · refine Ok.same (r := -1) H ?_ ?_
    · rw [q_5]
      simp only [x_isHead, bR, bi_0, e1]
      rw [if_pos ha]
    · rw [q_198]
      simp only [m_isHead hR, bR, bi_0]
      rw [if_pos ha]
theorem o_count (H : Inv S) (p : Int) : Ok L xs 68 318 [vi p] S := by
  have e0 := H.gt.1
  have e1 := H.gp.2.1
  have e2 := H.gp.2.2.1
  have e3 := H.gl.1
  have e4 := H.gv.2.1
  have e5 := H.gv.2.2.1
  have e6 := H.gk.2.1
  have e7 := H.gk.2.2.1
  have e8 := H.gu.2.1
  have e9 := H.gw.2.2.2.2.1
  have e10 := H.gn.2.1
  have e11 := H.gn.2.2.2.2.1
  have e12 := H.gb.1
  have e13 := H.gx.1
  have key : ev (WK L xs) 200 68 [vr 15, vi p] S = ev (WK L xs) 200 318 [vr 72, vi p] S := by
    rw [q_68, q_318, e0, e1, e2, e3, e4, e5, e6, e7, e8, e9, e10, e11, e12, e13]
  have h : ∃ r, ev (WK L xs) 200 318 [vr 72, vi p] S = some (r, S) := by
    rw [q_318]
    repeat' first
      | exact ⟨_, rfl⟩
      | refine some_ite ?_ ?_
  obtain ⟨r, h⟩ := h
  exact Ok.same H (key.trans h) h
end
