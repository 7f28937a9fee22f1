/-! advance: the call -/
section
variable {L : Nat} {xs : Nat → Int} {d : Nat} {S T U S' W : AH}
theorem m_advL (rv : RV S.2) {s : Int} (hs : 0 ≤ s ∧ s ≤ 1000000000) (hd : Int) : ∀ (m v : Nat), v + m = (S.2 72 40).toNat → LQ (WK L xs) (ev (WK L xs) (d + 1)) 242 32 [some (vr 72), some (vi hd), some (vi s), some (vl (s + sm (adF S.2 (yr (S.2 72 2))) v)), none, some (vi (v : Int))] [] S = LQ (WK L xs) (ev (WK L xs) (d + 1)) 242 32 [some (vr 72), some (vi hd), some (vi s), some (vl (s + sm (adF S.2 (yr (S.2 72 2))) (S.2 72 40).toNat)), none, some (vi ((S.2 72 40).toNat : Int))] [] S := by
  have hn := rv.1
  intro m
  induction m with
  | zero =>
    intro v hv
    rw [show v = (S.2 72 40).toNat by omega]
  | succ m ih =>
    intro v hv
    have hvn : (v : Int) < S.2 72 40 := by omega
    have hq : (0 : Int) ≤ (v : Int) ∧ (v : Int) < 80 := by omega
    have e1 : (v : Int) + 1 = ((v + 1 : Nat) : Int) := by omega
    have hi := ih (v + 1) (by first | decide | omega)
    have hb := adF_bd rv (yr (S.2 72 2)) (n := v + 1) (by first | decide | omega)
    have hb0 := adF_bd rv (yr (S.2 72 2)) (n := v) (by first | decide | omega)
    rw [sm_su (adF S.2 (yr (S.2 72 2))) v] at hi hb
    rw [← hi, q_242_32, if_pos hvn, w32e (x := (v : Int) + 1) (by first | decide | omega) (by first | decide | omega), e1]
    simp only [if_pos hq, Int.toNat_natCast]
    rw [m_year, bR, show idiv (S.2 72 2) 360 = yr (S.2 72 2) from rfl]
    by_cases c1 : S.2 97 v = 4
    · rw [if_pos c1]
      by_cases c2 : S.2 100 v = yr (S.2 72 2)
      · have : adF S.2 (yr (S.2 72 2)) v = S.2 99 v := by unfold adF; rw [if_pos ⟨c1, c2⟩]
        rw [this] at hb ⊢
        rw [if_pos c2, w64e (by first | decide | omega) (by first | decide | omega), Int.add_assoc]
      · have : adF S.2 (yr (S.2 72 2)) v = 0 := by unfold adF; rw [if_neg (fun z => c2 z.2)]
        rw [this, if_neg c2, w64e (by first | decide | omega) (by first | decide | omega), Int.add_zero, Int.add_zero]
    · have : adF S.2 (yr (S.2 72 2)) v = 0 := by unfold adF; rw [if_neg (fun z => c1 z.1)]
      rw [this, if_neg c1, w64e (by first | decide | omega) (by first | decide | omega), Int.add_zero, Int.add_zero]
theorem o_advance (H : Inv S) (hd s : Int) : Ok L xs 16 242 [vi hd, vi s] S := by
  have gv := H.gv
  have gp := H.gp
  have ht := H.gt
  have i1 := H.1
  have hyN := H.yN
  have hn80 := gv.1.1
  obtain ⟨n, hn⟩ := Int.eq_ofNat_of_zero_le hn80.1
  have en : S.2 36 1 = n := by rw [gv.2.1, hn]
  by_cases hP : (0 ≤ hd ∧ hd < S.2 72 4) ∧ (0 ≤ s ∧ s ≤ 1000000000) ∧ n < 80
  · obtain ⟨c1, c2, c3⟩ := hP
    obtain ⟨T, t1, t2, t3⟩ := x_nmb (L := L) (xs := xs) (d := 194) H.gl (k := 3) (by decide) (S.2 72 2)
    generalize hNm : nmb S.2 3 (S.2 72 2) = nm at t1
    have HT := H.s35 t2 t3
    have bd := adF_bd gv.1 (yr (S.2 72 2)) (n := n) (by first | decide | omega)
    have eAd : adF T.2 = adF S.2 := by
      funext y v
      unfold adF
      rw [t3 97 (by decide), t3 99 (by decide), t3 100 (by decide)]
    generalize hA : sm (adF S.2 (yr (S.2 72 2))) n = A at bd
    have x0 : ev (WK L xs) 200 16 [vr 15, vi hd, vi s] S = if w64 (nm * 1000) < A + s then some (-1, T) else some ((n : Int), wr (wr (auS T 4 hd s (yr (S.2 72 2)) (S.2 72 2) 27 (-1)) 37 n (T.1.1 : Int)) 36 1 ((n : Int) + 1)) := by
      rw [q_16, x_isHead, bR, gp.2.1]
      simp only [bi_0]
      rw [if_neg (fun z => z c1), x_isSum, bR]
      simp only [bi_0]
      rw [if_neg (fun z => z c2), q_166, en, if_pos (by first | decide | omega), bR, if_pos rfl, x_yearOf, bR, ht.1]
      rw [show ev (WK L xs) 199 108 [vr 31, vi 3, vi (S.2 72 2)] S = some (nm, T) from t1, bR, x_advs HT.gv, bR, eAd, t3 72 (by decide), hn, Int.toNat_natCast, hA, w64e (x := A + s) (by first | decide | omega) (by first | decide | omega)]
      simp only [lc_gt]
      have hi1 : 151 ≤ T.1.1 := by rw [t2]; exact i1
      by_cases c4 : w64 (nm * 1000) < A + s
      · rw [if_pos c4, if_pos c4]
      have hs : (nw T 11 14).1.2.2 T.1.1 = (11, 14) := by rw [nw_s, if_pos rfl]
      have g1 : ∀ r : Rs, gd (Nat.beq (shp (WK L xs) (nw T 11 14) T.1.1).1 11 && Nat.ble 2 8) r = r := fun r => by rw [shpD hi1, hs]; rfl
      have e15 : (nw T 11 14).2 15 0 = S.2 72 2 := by rw [nw_2, if_neg (by first | decide | omega), t3 15 (by decide), ht.1]
      rw [if_neg c4, if_neg c4, g1, e15, x_newAu hi1, bR]
      rw [x_addAu (auS_o hi1).1 (by rw [(auS_hi (a := 36) (by first | decide | omega)).2, t3 36 (by decide), en]) c3, bR]
    have M0 : ∀ W : AH, (∀ a, 72 ≤ a → a < 151 → W.2 a = S.2 a) → GL W → ∃ U, U.1 = W.1 ∧ (∀ a, a ≠ 96 → U.2 a = W.2 a) ∧ ev (WK L xs) 200 242 [vr 72, vi hd, vi s] W = if w64 (nm * 1000) < A + s then some (-1, U) else bindR (ev (WK L xs) 199 239 [vr 72, vi 4, vi hd, vi s, vi (yr (S.2 72 2))] U) (fun r5 S6 => some (r5, S6)) := by
      intro W hW glW
      obtain ⟨rk, rv, rp⟩ := H.ref (W := W) (fun a q1 q2 _ => hW a q1 q2)
      have w72 := hW 72 (by decide) (by decide)
      obtain ⟨U, u1, u2, u3⟩ := m_nmb (L := L) (xs := xs) (d := 195) glW (k := 3) (by decide) (S.2 72 2)
      rw [nmb_fr 3 _ (hW 78 (by decide) (by decide)) (hW 79 (by decide) (by decide)) (hW 80 (by decide) (by decide)) (hW 81 (by decide) (by decide)) (hW 94 (by decide) (by decide)) (hW 95 (by decide) (by decide)) (by rw [w72]), hNm] at u1
      refine ⟨U, u2, u3, ?_⟩
      have eA2 : adF W.2 = adF S.2 := by
        funext y v
        unfold adF
        rw [hW 97 (by decide) (by decide), hW 99 (by decide) (by decide), hW 100 (by decide) (by decide)]
      have lp := m_advL (L := L) (xs := xs) (d := 198) rv c2 hd n 0 (by rw [w72, hn]; omega)
      rw [eA2, w72, hn, Int.toNat_natCast, hA, show sm (adF S.2 (yr (S.2 72 2))) 0 = 0 from rfl, Int.add_zero] at lp
      rw [q_242, w72, hn, if_neg (by first | decide | omega), m_isHead rp, bR]
      simp only [bi_0]
      rw [w72, if_neg (fun z => z c1), m_isSum, bR]
      simp only [bi_0]
      rw [if_neg (fun z => z c2)]
      refine Eq.trans lp ?_
      rw [q_242_32, w72, hn, if_neg (by first | decide | omega)]
      rw [show ev (WK L xs) 199 236 [vr 72, vi 101, vi (S.2 72 2)] W = some (nm, U) from u1, bR, m_year, bR, u3 72 (by decide), w72, Int.mul_comm 1000 nm, Int.add_comm s A]
      simp only [lc_gt]
      rfl
    by_cases c4 : w64 (nm * 1000) < A + s
    · rw [if_pos c4] at x0
      obtain ⟨U, u1, u2, u3⟩ := M0 T (fun a q1 q2 => t3 a (by first | decide | omega)) HT.gl
      rw [if_pos c4] at u3
      exact ⟨-1, T, U, x0, u3, HT.s96 u1 u2, Gw.of (u1.trans t2)⟩
    · rw [if_neg c4] at x0
      have hi1 : 151 ≤ T.1.1 := by rw [t2]; exact i1
      generalize hB : auS T 4 hd s (yr (S.2 72 2)) (S.2 72 2) 27 (-1) = B at x0
      have loB : ∀ a, a < 151 → B.2 a = T.2 a := fun a q => by rw [← hB, (auS_hi (by first | decide | omega)).2]
      generalize hW : wr (wr B 37 n (T.1.1 : Int)) 36 1 ((n : Int) + 1) = W at x0
      have hW1 : W.1 = B.1 := by rw [← hW]; rfl
      have loT : ∀ a, a < 151 → a ≠ 36 → a ≠ 37 → W.2 a = T.2 a := fun a q1 q2 q3 => by rw [← hW, wr_c q2, wr_c q3, loB a q1]
      have lo : ∀ a, 72 ≤ a → a < 151 → W.2 a = S.2 a := fun a q1 q2 => by rw [loT a q2 (by first | decide | omega) (by first | decide | omega), t3 a (by first | decide | omega)]
      have hFx : Fx (fun _ => False) T W := ⟨by rw [hW1, ← hB]; show T.1.1 ≤ T.1.1 + 1 + 1; omega, fun a q1 q2 => ⟨by rw [hW1, ← hB, (auS_hi q2).1], fun _ => by rw [← hW, wr_c (by first | decide | omega), wr_c (by first | decide | omega), ← hB, (auS_hi q2).2]⟩⟩
      have glW : GL W := HT.gl.fx hFx (fun a q => q.elim) (fun a q => loT a (by first | decide | omega) (by first | decide | omega) (by first | decide | omega)) (by rw [loT 72 (by decide) (by decide) (by decide)]) (fun t x _ q => q.cells (fun a q1 q2 => loT a (by first | decide | omega) (by first | decide | omega) (by first | decide | omega)))
      obtain ⟨V, v1, v2, v3⟩ := M0 W lo glW
      rw [if_neg c4] at v3
      have V72 : V.2 72 = S.2 72 := by rw [v2 72 (by decide), lo 72 (by decide) (by decide)]
      obtain ⟨U, u1, u2, u3, u4, u5, u6, u7, u8, u9, u10, u11, u12, u13, u14, u15⟩ := m_addAu (L := L) (xs := xs) (d := 198) (W := V) (n := n) (by rw [V72, hn]) c3 4 hd s (yr (S.2 72 2))
      rw [show ev (WK L xs) 199 239 [vr 72, vi 4, vi hd, vi s, vi (yr (S.2 72 2))] V = some ((n : Int), U) from u1, bR] at v3
      refine ⟨_, W, U, x0, v3, ?_, ?_⟩
      rotate_left
      · unfold Gw
        rw [u2, v1, hW1, ← hB]
        have e := t2
        exact ⟨by show T.1.1 + 1 + 1 ≤ _; rw [t2]; omega, by show T.1.2.1 + 14 + 10 ≤ _; rw [t2]; omega⟩
      have lV : ∀ a, a ≠ 96 → a ≠ 36 → a ≠ 37 → a < 151 → V.2 a = T.2 a := fun a q1 q2 q3 q4 => by rw [v2 a q1, loT a q4 q2 q3]
      have T72 := t3 72 (by decide)
      have H2 : Inv ((U.1, fun a => if a = 96 then T.2 96 else U.2 a) : AH) := by
        have q96 : ∀ a, a ≠ 96 → ((U.1, fun a => if a = 96 then T.2 96 else U.2 a) : AH).2 a = U.2 a := fun a q => if_neg q
        refine HT.newB (tx := 27) (k := 4) (hd := hd) (s := s) (y := yr (S.2 72 2)) (td := S.2 72 2) (bs := -1) (by rw [T72, hn]) c3 ?_ (fun a q => ?_) (fun a q1 q2 q3 q4 q5 q6 => ?_) (fun k q => ?_) ?_ (fun k q => ?_) ?_ (fun j => ?_) (fun a j q1 q2 q3 => ?_) (fun t x q1 q2 => ?_) ?_ ?_ ?_ ?_ ?_ ?_ ?_ ?_ ?_ ?_
        · rw [hB, ← hW1, ← v1]; exact u2
        · rw [q96 a (by first | decide | omega), u3 a (by first | decide | omega) (by first | decide | omega) (by first | decide | omega), v2 a (by first | decide | omega), ← hW, wr_c (by first | decide | omega), wr_c (by first | decide | omega), hB]
        · by_cases e : a = 96
          · subst e
            show (if (96 : Nat) = 96 then T.2 96 else U.2 96) = T.2 96
            rw [if_pos rfl]
          · rw [q96 a e, u3 a (by first | decide | omega) (by first | decide | omega) (by first | decide | omega), lV a e q2 q3 q1]
        · rw [q96 36 (by decide), u3 36 (by decide) (by decide) (by decide), v2 36 (by decide), ← hW, wr_f, if_neg q, wr_c (by decide), loB 36 (by decide)]
        · rw [q96 36 (by decide), u3 36 (by decide) (by decide) (by decide), v2 36 (by decide), ← hW, wr_f, if_pos rfl]
        · rw [q96 72 (by decide), u4 k q, V72, T72]
        · rw [q96 72 (by decide), u5]
        · rw [q96 37 (by decide), u3 37 (by decide) (by decide) (by decide), v2 37 (by decide), ← hW, wr_c (by decide), wr_f, loB 37 (by decide)]
        · rw [q96 a (by first | decide | omega), u7 a j q1 q2 q3, lV a (by first | decide | omega) (by first | decide | omega) (by first | decide | omega) (by first | decide | omega)]
        · refine q2.c78 ?_ (fun a z1 z2 => ?_)
          · rw [q96 78 (by decide), u6 t, if_neg q1, lV 78 (by decide) (by decide) (by decide) (by decide)]
          · rw [q96 a (by first | decide | omega), u3 a (by first | decide | omega) (by first | decide | omega) (by first | decide | omega), lV a (by first | decide | omega) (by first | decide | omega) (by first | decide | omega) (by first | decide | omega)]
        · unfold nwR
          rw [q96 97 (by decide), q96 98 (by decide), q96 99 (by decide), q96 100 (by decide), q96 102 (by decide), q96 104 (by decide), u8, u9, u10, u11, u13, u15, V72, T72]
          exact ⟨by decide, c1, c2, by omega, ht.2, fun z => absurd z (by decide), fun _ => rfl⟩
        · rw [q96 97 (by decide), u8]
        · rw [q96 98 (by decide), u9]
        · rw [q96 99 (by decide), u10]
        · rw [q96 100 (by decide), u11]
        · rw [q96 104 (by decide), u15, V72]
        · rw [q96 97 (by decide), u8, if_neg (by decide)]
        · rw [q96 101 (by decide), u12]
        · rw [q96 103 (by decide), u14]
        · refine ⟨[], RX.nil ?_, Or.inl ⟨rfl, rfl⟩⟩
          rw [q96 78 (by decide), u6, if_pos rfl]
      exact H2.s96 rfl (fun a q => (if_neg q).symm)
  · refine Ok.same (r := -1) H ?_ ?_
    · rw [q_16, x_isHead, bR, gp.2.1]
      simp only [bi_0]
      by_cases c1 : 0 ≤ hd ∧ hd < S.2 72 4
      rotate_left
      · rw [if_pos c1]
      rw [if_neg (fun z => z c1), x_isSum, bR]
      simp only [bi_0]
      by_cases c2 : 0 ≤ s ∧ s ≤ 1000000000
      rotate_left
      · rw [if_pos c2]
      have c3 : ¬ n < 80 := fun z => hP ⟨c1, c2, z⟩
      rw [if_neg (fun z => z c2), q_166, en, if_neg (by first | decide | omega), bR, if_neg (by decide)]
    · rw [q_242, hn]
      by_cases c3 : n < 80
      rotate_left
      · rw [if_pos (by first | decide | omega)]
      rw [if_neg (by first | decide | omega), m_isHead gp.1, bR]
      simp only [bi_0]
      by_cases c1 : 0 ≤ hd ∧ hd < S.2 72 4
      rotate_left
      · rw [if_pos c1]
      have c2 : ¬ (0 ≤ s ∧ s ≤ 1000000000) := fun z => hP ⟨c1, z, c3⟩
      rw [if_neg (fun z => z c1), m_isSum, bR]
      simp only [bi_0]
      rw [if_pos c2]
end
