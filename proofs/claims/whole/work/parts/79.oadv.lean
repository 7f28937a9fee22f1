/-! advance: the call -/
section
variable {L : Nat} {xs : Nat → Int} {d : Nat} {S T U S' W : AH}
theorem m_advL (rv : RV S.2) {s : Int} (hs : 0 ≤ s ∧ s ≤ 1000000000) (hd : Int) : ∀ (m v : Nat), v + m = (S.2 72 40).toNat → LQ (WK L xs) (ev (WK L xs) (d + 1)) 242 32 [some (vr 72), some (vi hd), some (vi s), some (vl (s + sm (adF S.2 (yr (S.2 72 2))) v)), none, some (vi (v : Int))] [] S = LQ (WK L xs) (ev (WK L xs) (d + 1)) 242 32 [some (vr 72), some (vi hd), some (vi s), some (vl (s + sm (adF S.2 (yr (S.2 72 2))) (S.2 72 40).toNat)), none, some (vi ((S.2 72 40).toNat : Int))] [] S := by
  have hn := rv.1
  intro m
  induction m with
  | zero =>
    intro v hv
    rw [show v = (S.2 72 40).toNat by omega]
  | succ m ih =>
    intro v hv
    have hvn : (v : Int) < S.2 72 40 := by omega
    have hq : (0 : Int) ≤ (v : Int) ∧ (v : Int) < 80 := by omega
    have e1 : (v : Int) + 1 = ((v + 1 : Nat) : Int) := by omega
    have hi := ih (v + 1) (by omega)
    have hb := adF_bd rv (yr (S.2 72 2)) (n := v + 1) (by omega)
    have hb0 := adF_bd rv (yr (S.2 72 2)) (n := v) (by omega)
    rw [sm_su (adF S.2 (yr (S.2 72 2))) v] at hi hb
    rw [← hi, q_242_32, if_pos hvn, w32e (x := (v : Int) + 1) (by omega) (by omega), e1]
    simp only [if_pos hq, Int.toNat_natCast]
    rw [m_year, bR, show idiv (S.2 72 2) 360 = yr (S.2 72 2) from rfl]
    by_cases c1 : S.2 97 v = 4
    · rw [if_pos c1]
      by_cases c2 : S.2 100 v = yr (S.2 72 2)
      · have : adF S.2 (yr (S.2 72 2)) v = S.2 99 v := by unfold adF; rw [if_pos ⟨c1, c2⟩]
        rw [this] at hb ⊢
        rw [if_pos c2, w64e (by omega) (by omega), Int.add_assoc]
      · have : adF S.2 (yr (S.2 72 2)) v = 0 := by unfold adF; rw [if_neg (fun z => c2 z.2)]
        rw [this, if_neg c2, w64e (by omega) (by omega), Int.add_zero, Int.add_zero]
    · have : adF S.2 (yr (S.2 72 2)) v = 0 := by unfold adF; rw [if_neg (fun z => c1 z.1)]
      rw [this, if_neg c1, w64e (by omega) (by omega), Int.add_zero, Int.add_zero]
theorem o_advance (H : Inv S) (hd s : Int) : Ok L xs 16 242 [vi hd, vi s] S := by
  have gv := H.gv
  have gp := H.gp
  have ht := H.gt
  have i1 := H.1
  have hyN := H.yN
  have hn80 := gv.1.1
  obtain ⟨n, hn⟩ := Int.eq_ofNat_of_zero_le hn80.1
  have en : S.2 36 1 = n := by rw [gv.2.1, hn]
  by_cases hP : (0 ≤ hd ∧ hd < S.2 72 4) ∧ (0 ≤ s ∧ s ≤ 1000000000) ∧ n < 80
  · obtain ⟨c1, c2, c3⟩ := hP
    obtain ⟨T, t1, t2, t3⟩ := x_nmb (L := L) (xs := xs) (d := 194) H.gl (k := 3) (by decide) (S.2 72 2)
    generalize hNm : nmb S.2 3 (S.2 72 2) = nm at t1
    have HT := H.s35 t2 t3
    have bd := adF_bd gv.1 (yr (S.2 72 2)) (n := n) (by omega)
    have eAd : adF T.2 = adF S.2 := by
      funext y v
      unfold adF
      rw [t3 97 (by decide), t3 99 (by decide), t3 100 (by decide)]
    generalize hA : sm (adF S.2 (yr (S.2 72 2))) n = A at bd
    have x0 : ev (WK L xs) 200 16 [vr 15, vi hd, vi s] S = if w64 (nm * 1000) < A + s then some (-1, T) else some ((n : Int), wr (wr (auS T 4 hd s (yr (S.2 72 2)) (S.2 72 2) 27 (-1)) 37 n (T.1.1 : Int)) 36 1 ((n : Int) + 1)) := by
      rw [q_16, x_isHead, bR, gp.2.1]
      simp only [bi_0]
      rw [if_neg (fun z => z c1), x_isSum, bR]
      simp only [bi_0]
      rw [if_neg (fun z => z c2), q_166, en, if_pos (by omega), bR, if_pos rfl, x_yearOf, bR, ht.1]
      rw [show ev (WK L xs) 199 108 [vr 31, vi 3, vi (S.2 72 2)] S = some (nm, T) from t1, bR, x_advs HT.gv, bR, eAd, t3 72 (by decide), hn, Int.toNat_natCast, hA, w64e (x := A + s) (by omega) (by omega)]
      simp only [lc_gt]
      have hi1 : 150 ≤ T.1.1 := by rw [t2]; exact i1
      by_cases c4 : w64 (nm * 1000) < A + s
      · rw [if_pos c4, if_pos c4]
      have hs : (nw T 11 14).1.2.2 T.1.1 = (11, 14) := by rw [nw_s, if_pos rfl]
      have g1 : ∀ r : Rs, gd (Nat.beq (shp (WK L xs) (nw T 11 14) T.1.1).1 11 && Nat.ble 2 8) r = r := fun r => by rw [shpD hi1, hs]; rfl
      have e15 : (nw T 11 14).2 15 0 = S.2 72 2 := by rw [nw_2, if_neg (by omega), t3 15 (by decide), ht.1]
      rw [if_neg c4, if_neg c4, g1, e15, x_newAu hi1, bR]
      rw [x_addAu (auS_o hi1).1 (by rw [(auS_hi (a := 36) (by omega)).2, t3 36 (by decide), en]) c3, bR]
    sorry
  · sorry
end
