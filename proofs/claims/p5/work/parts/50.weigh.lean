/-! strikes, the class's -/
section
variable {L : Nat} {xs : Nat → Int} {d : Nat} {S S' T : AH} {o : Nat}
theorem B35.tx {day : Int} {f : Nat → Bool} {n : Nat} (hB : B35 S T day f n) {a t : Nat} (H : TX S a t) : TX T a t := H.fr ⟨by rw [hB.1]; exact Nat.le_refl _, fun b q1 _ => ⟨by rw [hB.1], hB.2.1 b (by first | decide | omega)⟩⟩ (fun b q1 q2 => hB.2.1 b (by first | decide | omega))
theorem g19 {k a : Nat} (hk : Nat.ble k 8 = true) (h : Nat.beq (shp (WK L xs) S a).1 19 = true) (r : Rs) : gd (Nat.beq (shp (WK L xs) S a).1 19 && Nat.ble k 8) r = r := by
  rw [h, hk]
  rfl
theorem x_winit (gl : GL S) {day : Int} : ∀ (m i : Nat) (T : AH), (i : Int) + m = S.2 72 36 → B35 S T day (fun _ => false) i → ∃ T', LQ (WK L xs) (ev (WK L xs) (d + 1)) 104 2 [some (vr 31), some (vi day), some (vi (i : Int)), none, none] [] T = LQ (WK L xs) (ev (WK L xs) (d + 1)) 104 84 [some (vr 31), none, some (vi (S.2 72 36 - 1)), none, none] [] T' ∧ B35 S T' day (fun _ => false) (S.2 72 36).toNat := by
  have hl := gl.2
  intro m
  induction m with
  | zero =>
    intro i T hi hB
    rw [q_104_2, hB.2.1 31 (by decide), gl.1, if_neg (by first | decide | omega), w32e (by first | decide | omega) (by first | decide | omega)]
    refine ⟨T, rfl, ?_⟩
    rw [show (S.2 72 36).toNat = i by omega]
    exact hB
  | succ m ih =>
    intro i T hi hB
    obtain ⟨f1, f2, tx⟩ := gl.2.2.2 i (by first | decide | omega)
    have hcm := cm_bd tx
    have hq : (0 : Int) ≤ (i : Int) ∧ (i : Int) < 20 := by omega
    have e1 : (i : Int) + 1 = ((i + 1 : Nat) : Int) := by omega
    obtain ⟨x1, x2⟩ := x_clauses (L := L) (xs := xs) (d := d) (hB.tx tx)
    have w1 : w32 ((i : Int) + 1) = ((i + 1 : Nat) : Int) := by rw [w32e (by first | decide | omega) (by first | decide | omega)]; omega
    have hnx : ∀ z : Nat, z < 65536 → (∀ j, j < 16 → z.testBit j = btsF S.2 day (fun _ => false) i j) → B35 S (wr T 35 i (z : Int)) day (fun _ => false) (i + 1) := by
      intro z h1 h2
      refine ⟨hB.1, fun b hb => by rw [wr_c hb]; exact hB.2.1 b hb, fun k hk => ?_⟩
      rw [wr_f]
      by_cases e : k = i
      · subst e
        exact ⟨z, by rw [if_pos rfl], h1, h2⟩
      · rw [if_neg e]
        exact hB.2.2 k (by first | decide | omega)
    have h0 : inF S.2 day i = false → ∃ T', LQ (WK L xs) (ev (WK L xs) (d + 1)) 104 46 [some (vr 31), some (vi day), some (vi (i : Int)), some (vr (S.2 32 i).toNat), none] [vi 0] T = LQ (WK L xs) (ev (WK L xs) (d + 1)) 104 84 [some (vr 31), none, some (vi (S.2 72 36 - 1)), none, none] [] T' ∧ B35 S T' day (fun _ => false) (S.2 72 36).toNat := by
      intro hF
      rw [q_104_46, if_pos rfl, if_pos hq, w1, Int.toNat_natCast]
      refine ih (i + 1) _ (by first | decide | omega) (hnx 0 (by first | decide | omega) (fun j _ => ?_))
      unfold btsF
      rw [hF, Nat.zero_testBit]
      rfl
    rw [q_104_2, hB.2.1 31 (by decide), gl.1, if_pos (by first | decide | omega), if_pos hq, if_pos hq, if_pos hq, hB.2.1 32 (by decide), hB.2.1 33 (by decide), hB.2.1 34 (by decide), Int.toNat_natCast, if_neg tx.ad.1, nb14 tx.ad.2, f1, f2]
    by_cases z1 : day < S.2 94 i
    · rw [if_pos z1]
      exact h0 (by unfold inF; simp; omega)
    · rw [if_neg z1]
      by_cases z2 : S.2 95 i < day
      · rw [if_pos z2]
        exact h0 (by unfold inF; simp; omega)
      · obtain ⟨n, hn⟩ := Int.eq_ofNat_of_zero_le hcm.1
        obtain ⟨u1, u2, u3⟩ := full (k := n) (by first | decide | omega)
        rw [if_neg z2, q_104_46, if_neg (by decide), g19 rfl x1, x2, bR, if_pos hq, w1, Int.toNat_natCast, hB.2.1 78 (by decide), hn, u1]
        refine ih (i + 1) _ (by first | decide | omega) (hnx _ u2 (fun j hj => ?_))
        rw [u3 j hj]
        unfold btsF inF
        rw [hn, decide_eq_true (show S.2 94 i ≤ day ∧ day ≤ S.2 95 i by omega), Bool.true_and, Bool.not_false, Bool.and_true]
        simp
theorem x_skC (gl : GL S) {i : Nat} (hi : (i : Int) < S.2 72 36) {day : Int} (hF : inF S.2 day i = true) : ∀ (m j : Nat) (T : AH) (f : Nat → Bool), (j : Int) + m = S.2 78 i → B35 S T day f (S.2 72 36).toNat → ∃ T', LQ (WK L xs) (ev (WK L xs) (d + 2)) 105 22 [some (vr 31), some (vi (i : Int)), some (vr (S.2 32 i).toNat), some (vi (j : Int)), none] [] T = some (0, T') ∧ B35 S T' day (skC S.2 i m j f) (S.2 72 36).toNat := by
  have hl := gl.2
  have tx := (gl.2.2.2 i hi).2.2
  have hcm := cm_bd tx
  have hqi : (0 : Int) ≤ (i : Int) ∧ (i : Int) < 20 := by omega
  intro m
  induction m with
  | zero =>
    intro j T f hj hB
    obtain ⟨x1, x2⟩ := x_clauses (L := L) (xs := xs) (d := d + 1) (hB.tx tx)
    rw [q_105_22, g19 rfl x1, x2, bR, hB.2.1 78 (by decide), if_neg (by first | decide | omega)]
    exact ⟨T, rfl, hB⟩
  | succ m ih =>
    intro j T f hj hB
    obtain ⟨x1, x2⟩ := x_clauses (L := L) (xs := xs) (d := d + 1) (hB.tx tx)
    obtain ⟨c1, c2, c3, c4, c5⟩ := (hB.tx tx).cl (L := L) (xs := xs) (j := j) (by rw [hB.2.1 78 (by decide)]; omega)
    rw [hB.2.1 79 (by decide), hB.2.1 80 (by decide), hB.2.1 81 (by decide)] at c3
    have w1 : w32 ((j : Int) + 1) = ((j + 1 : Nat) : Int) := by rw [w32e (by first | decide | omega) (by first | decide | omega)]; omega
    obtain ⟨z, z1, z2, z3⟩ := hB.2.2 i (by first | decide | omega)
    have hbit : iand (ishr (T.2 35 i) (j : Int)) 1 = if f (16 * i + j) = false then 1 else 0 := by
      rw [z1, bit16 z2 c1, z3 j c1]
      unfold btsF
      rw [hF, decide_eq_true (show (j : Int) < S.2 78 i by omega)]
      cases f (16 * i + j) <;> rfl
    have hno := ih (j + 1) T f (by first | decide | omega) hB
    rw [q_105_22, g19 rfl x1, x2, bR, hB.2.1 78 (by decide), if_pos (by first | decide | omega), g19 rfl x1, c4, bR, if_pos hqi, Int.toNat_natCast, hbit, g19 rfl x1, c5, bR, hB.2.1 79 (by decide), hB.2.1 80 (by decide), hB.2.1 81 (by decide), w1]
    simp only [skC]
    by_cases y1 : S.2 79 (16 * i + j) = 120
    · obtain ⟨d1, d2, d3⟩ := c3 y1
      rw [hB.2.1 80 (by decide)] at c2
      have v1 : idiv (S.2 80 (16 * i + j) * 16 + S.2 81 (16 * i + j)) 16 = S.2 80 (16 * i + j) := by
        unfold idiv
        rw [Int.tdiv_eq_ediv_of_nonneg (by first | decide | omega), show (S.2 80 (16 * i + j) * 16 + S.2 81 (16 * i + j)) / 16 = S.2 80 (16 * i + j) by omega, w32e (by first | decide | omega) (by first | decide | omega)]
      have v2 : Int.tmod (S.2 80 (16 * i + j) * 16 + S.2 81 (16 * i + j)) 16 = S.2 81 (16 * i + j) := by
        rw [Int.tmod_eq_emod_of_nonneg (by first | decide | omega)]
        omega
      rw [if_pos y1, if_pos y1, v1]
      cases hf : f (16 * i + j) with
      | true =>
        rw [if_pos (show (if true = false then (1 : Int) else 0) = 0 from rfl), if_neg (by simp)]
        exact hno
      | false =>
        rw [if_pos rfl, if_neg (by decide)]
        by_cases y2 : S.2 80 (16 * i + j) < i
        · obtain ⟨p, hp⟩ := Int.eq_ofNat_of_zero_le c2.1
          obtain ⟨q, hq⟩ := Int.eq_ofNat_of_zero_le d2
          obtain ⟨z', s1, s2, s3⟩ := hB.2.2 p (by first | decide | omega)
          obtain ⟨u, u1, u2, u3⟩ := clr (x := z') (k := q) s2 (by first | decide | omega)
          have hisl : ev (WK L xs) (d + 2) 103 [vr 31, vi (p : Int)] T = some (1, T) := by
            rw [q_103, hB.2.1 31 (by decide), gl.1, if_neg (by first | decide | omega), if_pos (by first | decide | omega)]
          rw [hp] at y2 v2
          rw [hq] at v2
          rw [hp, hq, if_pos y2, hisl, bR, if_neg (by decide), if_pos (by first | decide | omega), g19 rfl x1, c5, bR, hB.2.1 79 (by decide), hB.2.1 80 (by decide), hB.2.1 81 (by decide), if_pos y1, hp, hq, v2, if_pos (by first | decide | omega), Int.toNat_natCast, s1, u1, if_pos (show false = false ∧ S.2 79 (16 * i + j) = 120 ∧ (p : Int) < (i : Int) from ⟨rfl, y1, y2⟩)]
          refine ih (j + 1) _ _ (by first | decide | omega) ⟨hB.1, fun b hb => by rw [wr_c hb]; exact hB.2.1 b hb, fun k hk => ?_⟩
          have e16 : (16 * (p : Int) + (q : Int)).toNat = 16 * p + q := by omega
          rw [wr_f, e16]
          by_cases e : k = p
          · subst e
            refine ⟨u, by rw [if_pos rfl], u2, fun j2 hj2 => ?_⟩
            rw [u3 j2 hj2, s3 j2 hj2]
            unfold btsF
            by_cases e2 : j2 = q
            · subst e2
              simp
            · simp [e2, show ¬ 16 * k + j2 = 16 * k + q by omega]
          · rw [if_neg e]
            obtain ⟨z'', s4, s5, s6⟩ := hB.2.2 k hk
            refine ⟨z'', s4, s5, fun j2 hj2 => ?_⟩
            rw [s6 j2 hj2]
            unfold btsF
            simp [show ¬ 16 * k + j2 = 16 * p + q by omega]
        · rw [if_neg y2, if_neg (fun z => y2 z.2.2)]
          exact hno
    · rw [if_neg y1, if_neg (fun z => y1 z.2.1)]
      exact hno
end
