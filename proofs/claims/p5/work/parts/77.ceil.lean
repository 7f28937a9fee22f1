/-! ceiling, advance -/
section
variable {L : Nat} {xs : Nat → Int} {d : Nat} {S T U S' W : AH}
theorem RX.c78 {h h' : Nat → Nat → Int} {t : Nat} {x : TXT} (H : RX h t x) (h78 : h' 78 t = h 78 t) (hc : ∀ a, 79 ≤ a → a ≤ 85 → h' a = h a) : RX h' t x := by
  unfold RX at H ⊢
  rw [h78, hc 79 (by first | decide | omega) (by first | decide | omega), hc 80 (by first | decide | omega) (by first | decide | omega), hc 81 (by first | decide | omega) (by first | decide | omega), hc 82 (by first | decide | omega) (by first | decide | omega), hc 83 (by first | decide | omega) (by first | decide | omega), hc 84 (by first | decide | omega) (by first | decide | omega), hc 85 (by first | decide | omega) (by first | decide | omega)]
  exact H
theorem RX.nil {h : Nat → Nat → Int} {t : Nat} (h78 : h 78 t = 0) : RX h t [] := by
  refine ⟨h78, by decide, fun j q z => ?_, by decide, fun i q z => ?_⟩
  · simp at z
  · simp [cds] at z
theorem auS_hi {k hd s y td bs : Int} {tx a : Nat} (h1 : a < S.1.1) : (auS S k hd s y td tx bs).1.2.2 a = S.1.2.2 a ∧ (auS S k hd s y td tx bs).2 a = S.2 a := by
  constructor
  · show (if a = S.1.1 + 1 then ((3, 10) : Nat × Nat) else if a = S.1.1 then (11, 14) else S.1.2.2 a) = _
    rw [if_neg (by first | decide | omega), if_neg (by first | decide | omega)]
  · show (if a = S.1.1 then auF k hd s y td tx bs (S.1.1 + 1) else if a = S.1.1 + 1 then fun _ => 0 else S.2 a) = _
    rw [if_neg (by first | decide | omega), if_neg (by first | decide | omega)]
theorem auS_o {k hd s y td bs : Int} {tx : Nat} (h : 151 ≤ S.1.1) : isO (auS S k hd s y td tx bs) S.1.1 11 14 ∧ isO (auS S k hd s y td tx bs) (S.1.1 + 1) 3 10 ∧ (auS S k hd s y td tx bs).2 S.1.1 = auF k hd s y td tx bs (S.1.1 + 1) ∧ (∀ j, (auS S k hd s y td tx bs).2 (S.1.1 + 1) j = 0) := by
  refine ⟨⟨h, by show S.1.1 < S.1.1 + 1 + 1; omega, ?_⟩, ⟨by omega, by show S.1.1 + 1 < S.1.1 + 1 + 1; omega, ?_⟩, ?_, fun j => ?_⟩
  · show (if S.1.1 = S.1.1 + 1 then ((3, 10) : Nat × Nat) else if S.1.1 = S.1.1 then (11, 14) else S.1.2.2 S.1.1) = _
    rw [if_neg (by first | decide | omega), if_pos rfl]
  · show (if S.1.1 + 1 = S.1.1 + 1 then ((3, 10) : Nat × Nat) else if S.1.1 + 1 = S.1.1 then (11, 14) else S.1.2.2 (S.1.1 + 1)) = _
    rw [if_pos rfl]
  · show (if S.1.1 = S.1.1 then auF k hd s y td tx bs (S.1.1 + 1) else if S.1.1 = S.1.1 + 1 then fun _ => 0 else S.2 S.1.1) = _
    rw [if_pos rfl]
  · show (if S.1.1 + 1 = S.1.1 then auF k hd s y td tx bs (S.1.1 + 1) else if S.1.1 + 1 = S.1.1 + 1 then fun _ => 0 else S.2 (S.1.1 + 1)) j = _
    rw [if_neg (by first | decide | omega), if_pos rfl]
theorem Inv.newB (H : Inv S) {n tx : Nat} (hn : S.2 72 40 = n) (hn80 : n < 80) {k hd s y td bs : Int} (h1 : S'.1 = (auS S k hd s y td tx bs).1) (hhi : ∀ a, 151 ≤ a → S'.2 a = (auS S k hd s y td tx bs).2 a) (hc : ∀ a, a < 151 → a ≠ 36 → a ≠ 37 → a ≠ 72 → ¬ (78 ≤ a ∧ a ≤ 85) → ¬ (97 ≤ a ∧ a ≤ 104) → S'.2 a = S.2 a) (h36 : ∀ k, k ≠ 1 → S'.2 36 k = S.2 36 k) (e36 : S'.2 36 1 = (n : Int) + 1) (h72 : ∀ k, k ≠ 40 → S'.2 72 k = S.2 72 k) (e72 : S'.2 72 40 = (n : Int) + 1) (h37 : ∀ j, S'.2 37 j = if j = n then (S.1.1 : Int) else S.2 37 j)
    (hj : ∀ a j, 97 ≤ a → a ≤ 104 → j ≠ n → S'.2 a j = S.2 a j) (ht : ∀ t x, t ≠ 20 + n → RX S.2 t x → RX S'.2 t x) (hR : nwR S'.2 (S.2 72 4) (S.2 97) (S.2 100) n) (v1 : S'.2 97 n = k) (v2 : S'.2 98 n = hd) (v3 : S'.2 99 n = s) (v4 : S'.2 100 n = y) (v5 : S'.2 104 n = td) (v6 : (if S'.2 97 n = 1 then S'.2 102 n else -1) = bs) (hst : S'.2 101 n = -1) (hcd : S'.2 103 n = -1) (hT : TX S' tx (20 + n)) : Inv S' := by
  have i1 := H.1
  obtain ⟨o1, o2, o3, o4⟩ := auS_o (S := S) (k := k) (hd := hd) (s := s) (y := y) (td := td) (tx := tx) (bs := bs) i1
  refine H.newA (o := S.1.1) (p := S.1.1 + 1) (tx := tx) hn hn80 (Nat.le_refl _) (by first | decide | omega) (o1.eq h1) (o2.eq h1) (by rw [h1]; show S.1.1 ≤ S.1.1 + 1 + 1; omega) (fun a q1 q2 => ⟨by rw [h1, (auS_hi q2).1], by rw [hhi a q1, (auS_hi q2).2]⟩) hc h36 e36 h72 e72 h37 hj ht hR (fun j => ?_) hst hcd (fun j => ?_) hT
  · rw [hhi _ i1, o3, v1, v2, v3, v4, v5, ← v6, v1]
  · rw [hhi _ (by first | decide | omega), o4 j]
theorem x_addAu {n o : Nat} (h : isO T o 11 14) (hn : T.2 36 1 = n) (hn80 : n < 80) : ev (WK L xs) (d + 2) 167 [vr 36, vr o] T = some ((n : Int), wr (wr T 37 n (o : Int)) 36 1 ((n : Int) + 1)) := by
  rw [q_167, q_166, hn, if_pos (by first | decide | omega), bR, if_pos rfl, k11 h, hn, if_pos (by first | decide | omega), Int.toNat_natCast, wi (by first | decide | omega) (by first | decide | omega), w32e (by first | decide | omega) (by first | decide | omega)]
theorem m_addAu {n : Nat} (hn : W.2 72 40 = n) (hn80 : n < 80) (k hd s y : Int) : ∃ U, ev (WK L xs) (d + 1) 239 [vr 72, vi k, vi hd, vi s, vi y] W = some ((n : Int), U) ∧ U.1 = W.1 ∧ (∀ a, a ≠ 72 → a ≠ 78 → ¬ (97 ≤ a ∧ a ≤ 104) → U.2 a = W.2 a) ∧ (∀ j, j ≠ 40 → U.2 72 j = W.2 72 j) ∧ U.2 72 40 = (n : Int) + 1 ∧ (∀ j, U.2 78 j = if j = 20 + n then 0 else W.2 78 j) ∧ (∀ a j, 97 ≤ a → a ≤ 104 → j ≠ n → U.2 a j = W.2 a j) ∧ U.2 97 n = k ∧ U.2 98 n = hd ∧ U.2 99 n = s ∧ U.2 100 n = y ∧ U.2 101 n = -1 ∧ U.2 102 n = -1 ∧ U.2 103 n = -1 ∧ U.2 104 n = W.2 72 2 := by
  have hq : (0 : Int) ≤ (n : Int) ∧ (n : Int) < 80 := by omega
  have e20 : w32 (20 + (n : Int)) = ((20 + n : Nat) : Int) := by rw [w32e (by first | decide | omega) (by first | decide | omega)]; omega
  refine ⟨wr (wr (wr (wr (wr (wr (wr (wr (wr (wr W 97 n k) 98 n hd) 99 n s) 100 n y) 101 n (-1)) 102 n (-1)) 103 n (-1)) 104 n (W.2 72 2)) 78 (20 + n) 0) 72 40 ((n : Int) + 1), by rw [q_239, hn, if_pos hq, if_pos hq, if_pos hq, if_pos hq, if_pos hq, if_pos hq, if_pos hq, if_pos hq, e20, if_pos (by first | decide | omega), Int.toNat_natCast, Int.toNat_natCast, w32e (x := (n : Int) + 1) (by first | decide | omega) (by first | decide | omega)], rfl, fun a q1 q2 q3 => ?_, fun j q => ?_, ?_, fun j => ?_, fun a j q1 q2 q3 => ?_, ?_, ?_, ?_, ?_, ?_, ?_, ?_, ?_⟩
  · repeat rw [wr_c (by first | decide | omega)]
  · rw [wr_f, if_neg q]
    repeat rw [wr_c (by first | decide | omega)]
  · rw [wr_f, if_pos rfl]
  · rw [wr_c (by decide), wr_f]
    repeat rw [wr_c (by decide)]
  · rw [wr_c (by first | decide | omega), wr_c (by first | decide | omega)]
    simp only [wr_2, q3, and_false, if_false]
  all_goals simp [wr_2]
theorem o_ceiling (H : Inv S) (p hd s : Int) : Ok L xs 15 240 [vi p, vi hd, vi s] S := by
  have gv := H.gv
  have gp := H.gp
  have ht := H.gt
  have i1 := H.1
  have hn80 := gv.1.1
  obtain ⟨n, hn⟩ := Int.eq_ofNat_of_zero_le hn80.1
  have en : S.2 36 1 = n := by rw [gv.2.1, hn]
  by_cases hp : 0 ≤ p ∧ p < S.2 72 40
  · obtain ⟨v, hv⟩ := Int.eq_ofNat_of_zero_le hp.1
    subst hv
    obtain ⟨a1, a2, a3, a4, a5, a6, -⟩ := gv.2.2.2.1 v hp.2
    obtain ⟨r1, r2, r3, r4, r5, r6, r7, r8⟩ := gv.1.2.1 v hp.2
    have h5 := a1.1
    have hqv : (0 : Int) ≤ (v : Int) ∧ (v : Int) < 80 := by omega
    generalize hP : (S.2 97 v ≠ 1 ∧ (0 ≤ s ∧ s ≤ 1000000000) ∧ n < 80 ∧ (0 ≤ hd ∧ hd < S.2 72 4) ∧ uN S.2 hd (S.2 98 v) = true) = P
    have instP : Decidable P := Classical.propDecidable _
    generalize hB : auS S 1 hd s (S.2 100 v) (S.2 72 2) 27 (v : Int) = B
    have X15 : ev (WK L xs) 200 15 [vr 15, vi (v : Int), vi hd, vi s] S = if P then some ((n : Int), wr (wr B 37 n (S.1.1 : Int)) 36 1 ((n : Int) + 1)) else some (-1, S) := by
      subst hP
      rw [q_15, x_au gv hp.2, bR, Int.toNat_natCast, if_neg (by first | decide | omega), g14a a1, k11 a1, rdvD h5, a3]
      by_cases c1 : S.2 97 v = 1
      · rw [if_pos c1, if_neg (fun z => z.1 c1)]
      rw [if_neg c1, x_isSum, bR]
      simp only [bi_0]
      by_cases c2 : 0 ≤ s ∧ s ≤ 1000000000
      rotate_left
      · rw [if_pos c2, if_neg (fun z => c2 z.2.1)]
      rw [if_neg (fun z => z c2), q_166, en]
      by_cases c3 : n < 80
      rotate_left
      · rw [if_neg (by first | decide | omega), bR, if_neg (by decide), if_neg (fun z => c3 z.2.2.1)]
      rw [if_pos (by first | decide | omega), bR, if_pos rfl, k11 a1, rdvD h5, a4, x_isUnder gp, bR]
      simp only [bi_0]
      by_cases c4 : 0 ≤ hd ∧ hd < S.2 72 4
      rotate_left
      · rw [if_pos (fun z => c4 z.1), if_neg (fun z => c4 z.2.2.2.1)]
      by_cases c5 : uN S.2 hd (S.2 98 v) = true
      rotate_left
      · rw [if_pos (fun z => c5 z.2.2), if_neg (fun z => c5 z.2.2.2.2)]
      have hs : (nw S 11 14).1.2.2 S.1.1 = (11, 14) := by rw [nw_s, if_pos rfl]
      have oA : isO (nw S 11 14) (auA S v) 11 14 := ⟨h5, by have := a1.2.1; show auA S v < S.1.1 + 1; omega, by rw [nw_s, if_neg (by have := a1.2.1; omega)]; exact a1.2.2⟩
      have g1 : ∀ r : Rs, gd (Nat.beq (shp (WK L xs) (nw S 11 14) S.1.1).1 11 && Nat.ble 2 8) r = r := fun r => by rw [shpD i1, hs]; rfl
      have e15 : (nw S 11 14).2 15 0 = S.2 15 0 := by rw [nw_2, if_neg (by first | decide | omega)]
      have eY : (nw S 11 14).2 (auA S v) 3 = S.2 100 v := by rw [nw_2, if_neg (by have := a1.2.1; omega), a6]
      rw [if_neg (fun z => z ⟨c4, r2, c5⟩), if_pos ⟨c1, c2, c3, c4, c5⟩, k11 oA, g1, rdvD h5, eY, e15, ht.1, x_newAu i1, bR, hB]
      have oB : isO B S.1.1 11 14 := by rw [← hB]; exact (auS_o i1).1
      have eB : B.2 36 1 = n := by rw [← hB, (auS_hi (a := 36) (by first | decide | omega)).2, en]
      rw [x_addAu oB eB c3, bR]
    have M240 : ∀ W : AH, (∀ a, 72 ≤ a → a < 151 → W.2 a = S.2 a) → (¬ P → ev (WK L xs) 200 240 [vr 72, vi (v : Int), vi hd, vi s] W = some (-1, W)) ∧ (P → ∃ U, ev (WK L xs) 199 239 [vr 72, vi 1, vi hd, vi s, vi (S.2 100 v)] W = some ((n : Int), U) ∧ ev (WK L xs) 200 240 [vr 72, vi (v : Int), vi hd, vi s] W = some ((n : Int), wr U 102 n (v : Int))) := by
      intro W hW
      obtain ⟨rk, rv, rp⟩ := H.ref (W := W) (fun a q1 q2 _ => hW a q1 q2)
      have w72 := hW 72 (by decide) (by decide)
      have eun : uN W.2 = uN S.2 := by
        funext a b
        unfold uN
        rw [hW 74 (by decide) (by decide)]
      subst hP
      rw [q_240, w72, hn]
      by_cases c3 : n < 80
      rotate_left
      · rw [if_pos (by first | decide | omega)]
        exact ⟨fun _ => rfl, fun z => absurd z.2.2.1 c3⟩
      rw [if_neg (by first | decide | omega), m_isAu rv, bR]
      simp only [bi_0]
      rw [w72, if_neg (fun z => z hp)]
      simp only [if_pos hqv, Int.toNat_natCast]
      rw [hW 97 (by decide) (by decide)]
      by_cases c1 : S.2 97 v = 1
      · rw [if_pos c1]
        exact ⟨fun _ => rfl, fun z => absurd c1 z.1⟩
      rw [if_neg c1, m_isHead rp, bR]
      simp only [bi_0]
      rw [w72]
      by_cases c4 : 0 ≤ hd ∧ hd < S.2 72 4
      rotate_left
      · rw [if_pos c4]
        exact ⟨fun _ => rfl, fun z => absurd z.2.2.2.1 c4⟩
      rw [if_neg (fun z => z c4), hW 98 (by decide) (by decide), m_isUnder rp _ _ c4.1 (by rw [w72]; exact c4.2) r2.1, bR]
      simp only [bi_0]
      rw [eun]
      by_cases c5 : uN S.2 hd (S.2 98 v) = true
      rotate_left
      · rw [if_pos c5]
        exact ⟨fun _ => rfl, fun z => absurd z.2.2.2.2 c5⟩
      rw [if_neg (fun z => z c5), m_isSum, bR]
      simp only [bi_0]
      by_cases c2 : 0 ≤ s ∧ s ≤ 1000000000
      rotate_left
      · rw [if_pos c2]
        exact ⟨fun _ => rfl, fun z => absurd z.2.1 c2⟩
      rw [if_neg (fun z => z c2), hW 100 (by decide) (by decide)]
      refine ⟨fun z => absurd ⟨c1, c2, c3, c4, c5⟩ z, fun _ => ?_⟩
      obtain ⟨U, u1, -⟩ := m_addAu (L := L) (xs := xs) (d := 198) (W := W) (n := n) (by rw [w72, hn]) c3 1 hd s (S.2 100 v)
      refine ⟨U, u1, ?_⟩
      rw [show ev (WK L xs) 199 239 [vr 72, vi 1, vi hd, vi s, vi (S.2 100 v)] W = some ((n : Int), U) from u1, bR, if_pos (by first | decide | omega), Int.toNat_natCast]
    by_cases hPP : P
    · rw [if_pos hPP] at X15
      have loB : ∀ a, a < 151 → B.2 a = S.2 a := fun a q => by rw [← hB, (auS_hi (by first | decide | omega)).2]
      generalize hW : wr (wr B 37 n (S.1.1 : Int)) 36 1 ((n : Int) + 1) = W at X15
      have lo : ∀ a, 72 ≤ a → a < 151 → W.2 a = S.2 a := fun a q1 q2 => by rw [← hW, wr_c (by first | decide | omega), wr_c (by first | decide | omega), loB a q2]
      obtain ⟨U, u0, m⟩ := (M240 W lo).2 hPP
      rw [← hP] at hPP
      obtain ⟨c1, c2, c3, c4, c5⟩ := hPP
      obtain ⟨U', u1, u2, u3, u4, u5, u6, u7, u8, u9, u10, u11, u12, u13, u14, u15⟩ := m_addAu (L := L) (xs := xs) (d := 198) (W := W) (n := n) (by rw [lo 72 (by decide) (by decide), hn]) c3 1 hd s (S.2 100 v)
      have eU : U' = U := by
        have := u1.symm.trans u0
        simp only [Option.some.injEq, Prod.mk.injEq, true_and] at this
        exact this
      subst eU
      have hW1 : W.1 = B.1 := by rw [← hW]; rfl
      refine ⟨_, W, _, X15, m, ?_, ?_⟩
      rotate_left
      · unfold Gw
        rw [show (wr U' 102 n (v : Int)).1 = U'.1 from rfl, u2, hW1, ← hB]
        exact ⟨by show S.1.1 + 1 + 1 ≤ _; omega, by show S.1.2.1 + 14 + 10 ≤ _; omega⟩
      refine H.newB (tx := 27) (k := 1) (hd := hd) (s := s) (y := S.2 100 v) (td := S.2 72 2) (bs := (v : Int)) hn c3 ?_ (fun a q => ?_) (fun a q1 q2 q3 q4 q5 q6 => ?_) (fun k q => ?_) ?_ (fun k q => ?_) ?_ (fun j => ?_) (fun a j q1 q2 q3 => ?_) (fun t x q1 q2 => ?_) ?_ ?_ ?_ ?_ ?_ ?_ ?_ ?_ ?_ ?_
      · rw [hB, ← hW1, ← u2]; rfl
      · rw [wr_c (by first | decide | omega), u3 a (by first | decide | omega) (by first | decide | omega) (by first | decide | omega), ← hW, wr_c (by first | decide | omega), wr_c (by first | decide | omega), hB]
      · rw [wr_c (by first | decide | omega), u3 a (by first | decide | omega) (by first | decide | omega) (by first | decide | omega), ← hW, wr_c (by first | decide | omega), wr_c (by first | decide | omega), loB a q1]
      · rw [wr_c (by decide), u3 36 (by decide) (by decide) (by decide), ← hW, wr_f, if_neg q, wr_c (by decide), loB 36 (by decide)]
      · rw [wr_c (by decide), u3 36 (by decide) (by decide) (by decide), ← hW, wr_f, if_pos rfl]
      · rw [wr_c (by decide), u4 k q, lo 72 (by decide) (by decide)]
      · rw [wr_c (by decide), u5]
      · rw [wr_c (by decide), u3 37 (by decide) (by decide) (by decide), ← hW, wr_c (by decide), wr_f, loB 37 (by decide)]
      · rw [wr_2, if_neg (fun z => q3 z.2), u7 a j q1 q2 q3, lo a (by first | decide | omega) (by first | decide | omega)]
      · refine q2.c78 ?_ (fun a z1 z2 => ?_)
        · rw [wr_c (by decide), u6 t, if_neg q1, lo 78 (by decide) (by decide)]
        · rw [wr_c (by first | decide | omega), u3 a (by first | decide | omega) (by first | decide | omega) (by first | decide | omega), lo a (by first | decide | omega) (by first | decide | omega)]
      · unfold nwR
        rw [wr_c (by decide), wr_c (by decide), wr_c (by decide), wr_c (by decide), wr_c (by decide), wr_f, if_pos rfl, u8, u9, u10, u11, u15, lo 72 (by decide) (by decide)]
        exact ⟨by decide, c4, c2, r4, ht.2, fun _ => ⟨by omega, by omega, by rw [Int.toNat_natCast]; exact c1, by rw [Int.toNat_natCast]⟩, fun z => absurd rfl z⟩
      · rw [wr_c (by decide), u8]
      · rw [wr_c (by decide), u9]
      · rw [wr_c (by decide), u10]
      · rw [wr_c (by decide), u11]
      · rw [wr_c (by decide), u15, lo 72 (by decide) (by decide)]
      · rw [wr_c (by decide), u8, if_pos rfl, wr_f, if_pos rfl]
      · rw [wr_c (by decide), u12]
      · rw [wr_c (by decide), u14]
      · refine ⟨[], RX.nil ?_, Or.inl ⟨rfl, rfl⟩⟩
        rw [wr_c (by decide), u6, if_pos rfl]
    · rw [if_neg hPP] at X15
      exact ⟨_, S, S, X15, (M240 S (fun _ _ _ => rfl)).1 hPP, H, Gw.rf⟩
  · refine Ok.same (r := -1) H ?_ ?_
    · rw [q_15, x_au0 gv hp, bR, if_pos (by decide)]
    · rw [q_240]
      by_cases c2 : S.2 72 40 = 80
      · rw [if_pos c2]
      rw [if_neg c2, m_isAu gv.1, bR]
      simp only [bi_0]
      rw [if_pos hp]
end
