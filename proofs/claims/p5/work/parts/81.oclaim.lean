/-! claim: the call -/
section
variable {L : Nat} {xs : Nat → Int} {d : Nat} {S T U S' W : AH}
noncomputable def clQ (h : Nat → Nat → Int) (p1 p2 p3 p4 p5 : Int) : Prop := (0 ≤ p1 ∧ p1 < h 72 5) ∧ (0 ≤ p2 ∧ p2 < h 72 4) ∧ uN h p2 (h 75 p1.toNat) = true ∧ (0 ≤ p3 ∧ p3 ≤ 9) ∧ (1 ≤ p4 ∧ p4 ≤ 1000000000) ∧ (-1 ≤ p5 ∧ p5 < h 72 70)
theorem x_claim (H : Inv S) (p1 p2 p3 p4 p5 p6 : Int) (h6 : p6 = 0 ∨ p6 = 1) : (¬ clQ S.2 p1 p2 p3 p4 p5 → ev (WK L xs) 200 25 [vr 15, vi p1, vi p2, vi p3, vi p4, vi p5, vi p6] S = some (-1, S)) ∧ (clQ S.2 p1 p2 p3 p4 p5 → ev (WK L xs) 200 25 [vr 15, vi p1, vi p2, vi p3, vi p4, vi p5, vi p6] S = ev (WK L xs) 199 82 [vr 43, vr S.1.1] (nwc S 12 15 (clF p1 p2 p3 p4 p5 p6))) := by
  have gp := H.gp
  have gv := H.gv
  have i1 := H.1
  have hnd : ∀ r : Rs, bindR r (fun r S' => some (r, S')) = r := fun r => by rcases r with _ | ⟨a, b⟩ <;> rfl
  have hs : (nw S 12 15).1.2.2 S.1.1 = (12, 15) := by rw [nw_s, if_pos rfl]
  have g1 : ∀ r : Rs, gd (Nat.beq (shp (WK L xs) (nw S 12 15) S.1.1).1 12 && Nat.ble 2 8) r = r := fun r => by rw [shpD i1, hs]; rfl
  rw [q_25, x_isHand, bR, gp.2.2.1]
  simp only [bi_0]
  by_cases c1 : 0 ≤ p1 ∧ p1 < S.2 72 5
  rotate_left
  · rw [if_pos c1]
    exact ⟨fun _ => rfl, fun z => absurd z.1 c1⟩
  obtain ⟨w, hw⟩ := Int.eq_ofNat_of_zero_le c1.1
  subst hw
  have e19 := (gp.2.2.2.2.1 w c1.2).1
  have r75 := gp.1.2.2.2 w c1.2
  have h16 := gp.1.2.1
  rw [if_neg (fun z => z c1), q_130, x_isHand, bR, gp.2.2.1]
  simp only [bi_0]
  rw [if_neg (fun z => z c1), if_pos (by first | decide | omega), Int.toNat_natCast, e19, bR, x_isUnder gp, bR]
  simp only [bi_0]
  unfold clQ
  rw [Int.toNat_natCast]
  by_cases c2 : 0 ≤ p2 ∧ p2 < S.2 72 4
  rotate_left
  · rw [if_pos (fun z => c2 z.1)]
    exact ⟨fun _ => rfl, fun z => absurd z.2.1 c2⟩
  by_cases c3 : uN S.2 p2 (S.2 75 w) = true
  rotate_left
  · rw [if_pos (fun z => c3 z.2.2)]
    exact ⟨fun _ => rfl, fun z => absurd z.2.2.1 c3⟩
  rw [if_neg (fun z => z ⟨c2, ⟨r75.1, r75.2.1⟩, c3⟩)]
  by_cases c4 : 0 ≤ p3 ∧ p3 ≤ 9
  rotate_left
  · by_cases c5 : p3 < 0
    · rw [if_pos c5]
      exact ⟨fun _ => rfl, fun z => absurd z.2.2.2.1 c4⟩
    · rw [if_neg c5, if_pos (by first | decide | omega)]
      exact ⟨fun _ => rfl, fun z => absurd z.2.2.2.1 c4⟩
  rw [if_neg (by first | decide | omega), if_neg (by first | decide | omega), x_isSum, bR]
  simp only [bi_0]
  by_cases c5 : 1 ≤ p4 ∧ p4 ≤ 1000000000
  rotate_left
  · by_cases c6 : 0 ≤ p4 ∧ p4 ≤ 1000000000
    · rw [if_neg (fun z => z c6), if_pos (by first | decide | omega)]
      exact ⟨fun _ => rfl, fun z => absurd z.2.2.2.2.1 c5⟩
    · rw [if_pos c6]
      exact ⟨fun _ => rfl, fun z => absurd z.2.2.2.2.1 c5⟩
  have h70 := gv.1.2.2.2.1
  rw [if_neg (fun z => z ⟨by omega, c5.2⟩), if_neg (by first | decide | omega), q_172, rng, bR, gv.2.2.1]
  simp only [bi_0, g1, x_newCl i1 _ _ _ _ _ _ h6, bR, hnd]
  by_cases c6 : p5 = -1
  · rw [if_pos c6]
    exact ⟨fun z => absurd ⟨c1, c2, c3, c4, c5, by omega, by omega⟩ z, fun _ => rfl⟩
  rw [if_neg c6]
  by_cases c7 : 0 ≤ p5 ∧ p5 < S.2 72 70
  · rw [if_neg (fun z => z c7)]
    exact ⟨fun z => absurd ⟨c1, c2, c3, c4, c5, by omega, by omega⟩ z, fun _ => rfl⟩
  · rw [if_pos c7]
    exact ⟨fun _ => rfl, fun z => absurd z.2.2.2.2.2 (by first | decide | omega)⟩
theorem m_claim (H : Inv S) {n : Nat} (hn : S.2 72 52 = n) (hW : ∀ a, 72 ≤ a → a < 151 → W.2 a = S.2 a) (p1 p2 p3 p4 p5 p6 : Int) (h6 : p6 = 0 ∨ p6 = 1) : (n = 300 ∨ ¬ clQ S.2 p1 p2 p3 p4 p5 → ev (WK L xs) 200 256 [vr 72, vi p1, vi p2, vi p3, vi p4, vi p5, vi p6] W = some (-1, W)) ∧ (n ≠ 300 → clQ S.2 p1 p2 p3 p4 p5 → ev (WK L xs) 200 256 [vr 72, vi p1, vi p2, vi p3, vi p4, vi p5, vi p6] W = some ((n : Int), wr (wr (wr (wr (wr (wr (wr (wr (wr W 108 n p1) 109 n p2) 110 n p3) 111 n p4) 112 n p5) 113 n p6) 115 n (-1)) 116 n (-1)) 72 52 ((n : Int) + 1))) := by
  obtain ⟨rk, rv, rp⟩ := H.ref (W := W) (fun a q1 q2 _ => hW a q1 q2)
  have w72 := hW 72 (by decide) (by decide)
  have h300 := H.gk.n
  have eun : uN W.2 = uN S.2 := by
    funext a b
    unfold uN
    rw [hW 74 (by decide) (by decide)]
  have gp := H.gp
  rw [q_256, w72, hn]
  by_cases c0 : n = 300
  · rw [if_pos (by first | decide | omega)]
    exact ⟨fun _ => rfl, fun z => absurd c0 z⟩
  rw [if_neg (by first | decide | omega), m_isHand rp, bR]
  simp only [bi_0]
  rw [w72]
  by_cases c1 : 0 ≤ p1 ∧ p1 < S.2 72 5
  rotate_left
  · rw [if_pos c1]
    exact ⟨fun _ => rfl, fun _ z => absurd z.1 c1⟩
  obtain ⟨w, hw⟩ := Int.eq_ofNat_of_zero_le c1.1
  subst hw
  have r75 := gp.1.2.2.2 w c1.2
  have h16 := gp.1.2.1
  unfold clQ
  rw [Int.toNat_natCast, if_neg (fun z => z c1), m_isHead rp, bR]
  simp only [bi_0]
  rw [w72]
  by_cases c2 : 0 ≤ p2 ∧ p2 < S.2 72 4
  rotate_left
  · rw [if_pos c2]
    exact ⟨fun _ => rfl, fun _ z => absurd z.2.1 c2⟩
  rw [if_neg (fun z => z c2), if_pos (by first | decide | omega), hW 75 (by decide) (by decide), m_isUnder rp _ _ c2.1 (by rw [w72]; exact c2.2) r75.1, bR]
  simp only [bi_0]
  rw [eun]
  by_cases c3 : uN S.2 p2 (S.2 75 w) = true
  rotate_left
  · rw [if_pos c3]
    exact ⟨fun _ => rfl, fun _ z => absurd z.2.2.1 c3⟩
  have h70 := H.gv.1.2.2.2.1
  rw [if_neg (fun z => z c3), m_lies, bR, m_lies, bR, m_lies, bR]
  simp only [bi_0]
  rw [w72, w32e (x := S.2 72 70 - 1) (by first | decide | omega) (by first | decide | omega), hn]
  by_cases c4 : 0 ≤ p3 ∧ p3 ≤ 9
  rotate_left
  · rw [if_pos c4]
    exact ⟨fun _ => rfl, fun _ z => absurd z.2.2.2.1 c4⟩
  rw [if_neg (fun z => z c4)]
  by_cases c5 : 1 ≤ p4 ∧ p4 ≤ 1000000000
  rotate_left
  · rw [if_pos c5]
    exact ⟨fun _ => rfl, fun _ z => absurd z.2.2.2.2.1 c5⟩
  rw [if_neg (fun z => z c5)]
  by_cases c6 : -1 ≤ p5 ∧ p5 ≤ S.2 72 70 - 1
  rotate_left
  · rw [if_pos c6]
    exact ⟨fun _ => rfl, fun _ z => absurd z.2.2.2.2.2 (by first | decide | omega)⟩
  have hq : (0 : Int) ≤ (n : Int) ∧ (n : Int) < 300 := by omega
  rw [if_neg (fun z => z c6)]
  refine ⟨fun z => ?_, fun _ _ => ?_⟩
  · rcases z with z | z
    · exact absurd z c0
    · exact absurd ⟨c1, c2, c3, c4, c5, by omega⟩ z
  · simp only [if_pos hq]
    rw [if_pos h6, wi (by first | decide | omega) (by first | decide | omega), w32e (by first | decide | omega) (by first | decide | omega), Int.toNat_natCast]
theorem o_claim (H : Inv S) (p1 p2 p3 p4 p5 p6 : Int) (h6 : p6 = 0 ∨ p6 = 1) : Ok L xs 25 256 [vi p1, vi p2, vi p3, vi p4, vi p5, vi p6] S := by
  have gk := H.gk
  have i1 := H.1
  have h300 := gk.n
  obtain ⟨n, hn⟩ := Int.eq_ofNat_of_zero_le h300.1
  have en : S.2 43 1 = n := by rw [gk.2.1, hn]
  have x0 := x_claim (L := L) (xs := xs) H p1 p2 p3 p4 p5 p6 h6
  by_cases c : clQ S.2 p1 p2 p3 p4 p5
  rotate_left
  · exact Ok.same H (x0.1 c) ((m_claim H hn (fun _ _ _ => rfl) p1 p2 p3 p4 p5 p6 h6).1 (Or.inr c))
  have x1 := x0.2 c
  generalize hB : nwc S 12 15 (clF p1 p2 p3 p4 p5 p6) = B at x1
  have B1 : ∀ a, a < S.1.1 → B.1.2.2 a = S.1.2.2 a ∧ B.2 a = S.2 a := fun a q => by
    rw [← hB]
    constructor
    · show (if a = S.1.1 then ((12, 15) : Nat × Nat) else S.1.2.2 a) = _
      rw [if_neg (by first | decide | omega)]
    · show (if a = S.1.1 then clF p1 p2 p3 p4 p5 p6 else S.2 a) = _
      rw [if_neg (by first | decide | omega)]
  have oB : isO B S.1.1 12 15 := by
    rw [← hB]
    refine ⟨i1, Nat.lt_succ_self _, ?_⟩
    show (if S.1.1 = S.1.1 then ((12, 15) : Nat × Nat) else S.1.2.2 S.1.1) = _
    rw [if_pos rfl]
  have fB : B.2 S.1.1 = clF p1 p2 p3 p4 p5 p6 := by
    rw [← hB]
    show (if S.1.1 = S.1.1 then clF p1 p2 p3 p4 p5 p6 else S.2 S.1.1) = _
    rw [if_pos rfl]
  have gB : B.1.1 = S.1.1 + 1 ∧ B.1.2.1 = S.1.2.1 + 15 := by rw [← hB]; exact ⟨rfl, rfl⟩
  have lo : ∀ a, a < 151 → B.2 a = S.2 a := fun a q => (B1 a (by first | decide | omega)).2
  by_cases c0 : n = 300
  · rw [q_82, lo 43 (by decide), en, if_neg (by first | decide | omega)] at x1
    have hF : Fr S B := by rw [← hB]; exact Fr.nw
    refine ⟨-1, B, B, x1, (m_claim H hn (fun a _ q => lo a q) p1 p2 p3 p4 p5 p6 h6).1 (Or.inl c0), H.scr hF (fun a k q _ => by rw [lo a q]), ?_⟩
    unfold Gw
    omega
  have hq : (0 : Int) ≤ (n : Int) ∧ (n : Int) < 300 := by omega
  rw [q_82, lo 43 (by decide), en, if_pos hq.2, k12 oB, if_pos hq, wi (by first | decide | omega) (by first | decide | omega), w32e (by first | decide | omega) (by first | decide | omega), Int.toNat_natCast] at x1
  generalize hV : wr (wr B 44 n (S.1.1 : Int)) 43 1 ((n : Int) + 1) = V at x1
  have V1 : V.1 = B.1 := by rw [← hV]; rfl
  have loV : ∀ a, a ≠ 43 → a ≠ 44 → V.2 a = B.2 a := fun a q1 q2 => by rw [← hV, wr_c q1, wr_c q2]
  have m0 := (m_claim (L := L) (xs := xs) H hn (W := V) (fun a q1 q2 => by rw [loV a (by first | decide | omega) (by first | decide | omega), lo a q2]) p1 p2 p3 p4 p5 p6 h6).2 c0 c
  refine ⟨_, V, _, x1, m0, ?_, ?_⟩
  rotate_left
  · unfold Gw
    simp only [wr_1]
    rw [V1]
    omega
  obtain ⟨c1, c2, c3, c4, c5, c6⟩ := c
  refine H.newK (n := n) (o := S.1.1) hn (by first | decide | omega) (Nat.le_refl _) ?_ ?_ (fun a q1 q2 => ?_) (fun a q1 q2 q3 q4 q5 q6 => ?_) (fun k q => ?_) ?_ (fun k q => ?_) ?_ (fun j => ?_) (fun a j q1 q2 q3 => ?_) ?_ (fun j => ?_)
  · exact oB.eq (by simp only [wr_1]; exact V1)
  · simp only [wr_1]
    rw [V1]
    omega
  · refine ⟨by simp only [wr_1]; rw [V1, (B1 a q2).1], ?_⟩
    repeat rw [wr_c (by first | decide | omega)]
    rw [loV a (by first | decide | omega) (by first | decide | omega), (B1 a q2).2]
  · repeat rw [wr_c (by first | decide | omega)]
    rw [loV a (by first | decide | omega) (by first | decide | omega), lo a q1]
  · repeat rw [wr_c (by decide)]
    rw [← hV, wr_f, if_neg q, wr_c (by decide), lo 43 (by decide)]
  · repeat rw [wr_c (by decide)]
    rw [← hV, wr_f, if_pos rfl]
  · rw [wr_f, if_neg q]
    repeat rw [wr_c (by decide)]
    rw [loV 72 (by decide) (by decide), lo 72 (by decide)]
  · rw [wr_f, if_pos rfl]
  · repeat rw [wr_c (by decide)]
    rw [← hV, wr_c (by decide), wr_f, lo 44 (by decide)]
  · rw [wr_c (by first | decide | omega)]
    simp only [wr_2, q3, and_false, if_false]
    rw [loV a (by first | decide | omega) (by first | decide | omega), lo a (by first | decide | omega)]
  · unfold nwK
    simp only [wr_2]
    exact ⟨c1, c2, c4, c5, c6, h6, rfl, rfl⟩
  · have e : ∀ U : AH, (∀ a, a ≠ 72 → ¬ (108 ≤ a ∧ a ≤ 116) → U.2 a = V.2 a) → U.2 S.1.1 j = clF p1 p2 p3 p4 p5 p6 j := fun U hU => by
      rw [hU S.1.1 (by first | decide | omega) (by first | decide | omega), loV _ (by first | decide | omega) (by first | decide | omega), fB]
    rw [e _ (fun a q1 q2 => by repeat rw [wr_c (by first | decide | omega)])]
    simp only [wr_2]
    rfl
end
