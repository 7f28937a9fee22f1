/-! tender: the class's loops -/
section
variable {L : Nat} {xs : Nat → Int} {d : Nat} {S T U : AH}
theorem x_takeL {n : Nat} (hn : n ≤ 12) {p : Int} : ∀ (m i : Nat) (left : Int) (used : Nat) (t : Nat → Bool) (S : AH), i + m = n → S.2 63 5 = i → S.2 63 2 = n → used < 65536 → (∀ b, b < n → used.testBit b = t b) → 0 ≤ left → left ≤ 1000000000 → (∀ b, b < n → 1 ≤ S.2 64 b ∧ S.2 64 b ≤ 1000000000) →
    ∃ T, LQ (WK L xs) (ev (WK L xs) (d + 1)) 111 12 [some (vr 63), some (vi p), some (vi left), some (vi (used : Int)), some (vi (i : Int)), none] [] S = some (w64 (p - (left - tks (tk (S.2 64) (S.2 65) n m left t))), T) ∧ T.1 = S.1 ∧ (∀ a, a ≠ 63 → a ≠ 66 → a ≠ 67 → T.2 a = S.2 a) ∧ (∀ k, k ≠ 5 → T.2 63 k = S.2 63 k) ∧ T.2 63 5 = ((i + (tk (S.2 64) (S.2 65) n m left t).length : Nat) : Int) ∧ (∀ j, j < i → T.2 66 j = S.2 66 j ∧ T.2 67 j = S.2 67 j) ∧ ∀ (j : Nat) (q : Nat × Int), (tk (S.2 64) (S.2 65) n m left t)[j]? = some q → T.2 66 (i + j) = q.1 ∧ T.2 67 (i + j) = q.2 := by
  intro m
  induction m with
  | zero =>
    intro i left used t S hi h5 h2 hu ht hl1 hl2 hs
    refine ⟨S, ?_, rfl, fun _ _ _ _ => rfl, fun _ _ => rfl, h5, fun _ _ => ⟨rfl, rfl⟩, fun j q hq => by cases hq⟩
    rw [q_111_12, h2, if_neg (by first | decide | omega)]
    show some (w64 (p - left), S) = some (w64 (p - (left - 0)), S)
    rw [Int.sub_zero]
  | succ m ih =>
    intro i left used t S hi h5 h2 hu ht hl1 hl2 hs
    have hb := lwB_bd (r := S.2 65) (t := t) (n := n)
    have hlow := x_low (L := L) (xs := xs) (d := d) (S := S) hn hu h2 ht
    simp only [tk]
    by_cases q : 0 < left ∧ lwB (S.2 65) t n ≠ -1
    · rw [if_pos q]
      obtain ⟨b, hbe⟩ := Int.eq_ofNat_of_zero_le (show 0 ≤ lwB (S.2 65) t n by omega)
      rw [hbe] at hlow hb q ⊢
      rw [Int.toNat_natCast] at hb ⊢
      have hbn : b < n := by omega
      have hbt : t b = false := by
        rcases hb with hb | hb
        · omega
        · exact hb.2.2
      obtain ⟨o1, o2, -⟩ := set_or hu (show b < 16 by omega)
      have hv := hs b hbn
      have f64 : ∀ a, a ≠ 63 → a ≠ 66 → a ≠ 67 → (wr (wr (wr S 66 i b) 67 i (min left (S.2 64 b))) 63 5 ((i + 1 : Nat) : Int)).2 a = S.2 a := fun a q1 q2 q3 => by rw [wr_c q1, wr_c q3, wr_c q2]
      obtain ⟨T, t1, t2, t3, t4, t5, t6, t7⟩ := ih (i + 1) (left - min left (S.2 64 b)) (used ||| 2 ^ b) (fun k => t k || k == b) (wr (wr (wr S 66 i b) 67 i (min left (S.2 64 b))) 63 5 ((i + 1 : Nat) : Int)) (by first | decide | omega) (by rw [wr_f, if_pos rfl]) (by rw [wr_f, if_neg (by decide), wr_c (by decide), wr_c (by decide)]; exact h2) o2 (fun k hk => by
        rw [Nat.testBit_or, ht k hk, Nat.testBit_two_pow]
        by_cases e : b = k
        · subst e; simp
        · have : (k == b) = false := by simp; omega
          simp [e, this]) (by first | decide | omega) (by first | decide | omega) (fun k hk => by rw [f64 64 (by decide) (by decide) (by decide)]; exact hs k hk)
      rw [f64 64 (by decide) (by decide) (by decide), f64 65 (by decide) (by decide) (by decide)] at t1 t5 t7
      refine ⟨T, ?_, t2, fun a q1 q2 q3 => by rw [t3 a q1 q2 q3, f64 a q1 q2 q3], fun k hk => ?_, ?_, fun j hj => ?_, fun j x hx => ?_⟩
      · have hq12 : (0 : Int) ≤ (i : Int) ∧ (i : Int) < 12 := by omega
        rw [q_111_12, h2, if_pos (by first | decide | omega), if_pos q.1, hlow, bR, if_neg (by first | decide | omega), h5, if_pos (by first | decide | omega), if_pos hq12, if_pos (by first | decide | omega), if_pos hq12, if_pos hq12, Int.toNat_natCast, Int.toNat_natCast, wr_f, if_pos rfl, w32e (by first | decide | omega) (by first | decide | omega), w32e (by first | decide | omega) (by first | decide | omega), o1, show (i : Int) + 1 = ((i + 1 : Nat) : Int) by omega, t1, tks_cons]
        show some (w64 (p - (left - min left (S.2 64 b) - _)), T) = some (w64 (p - (left - (min left (S.2 64 b) + _))), T)
        rw [Int.sub_sub]
      · rw [t4 k hk, wr_f, if_neg hk, wr_c (by decide), wr_c (by decide)]
      · rw [t5, List.length_cons]
        omega
      · obtain ⟨z1, z2⟩ := t6 j (by first | decide | omega)
        rw [z1, z2, wr_c (by decide), wr_c (by decide), wr_f, if_neg (by first | decide | omega), wr_c (by decide), wr_f, if_neg (by first | decide | omega), wr_c (by decide)]
        exact ⟨rfl, rfl⟩
      · cases j with
        | zero =>
          have hx2 : ((b, min left (S.2 64 b)) : Nat × Int) = x := by
            rw [List.getElem?_cons_zero] at hx
            exact Option.some.inj hx
          obtain ⟨z1, z2⟩ := t6 i (by first | decide | omega)
          rw [← hx2, Nat.add_zero, z1, z2, wr_c (by decide), wr_c (by decide), wr_f, if_pos rfl, wr_c (by decide), wr_f, if_pos rfl]
          exact ⟨rfl, rfl⟩
        | succ j =>
          rw [List.getElem?_cons_succ] at hx
          have := t7 j x hx
          rw [show i + 1 + j = i + (j + 1) by omega] at this
          exact this
    · rw [if_neg q]
      refine ⟨S, ?_, rfl, fun _ _ _ _ => rfl, fun _ _ => rfl, h5, fun _ _ => ⟨rfl, rfl⟩, fun j q hq => by cases hq⟩
      have e0 : w64 (p - (left - tks [])) = w64 (p - left) := by rw [tks_nil, Int.sub_zero]
      rw [e0, q_111_12, h2, if_pos (by first | decide | omega)]
      by_cases q2 : 0 < left
      · rw [if_pos q2, hlow, bR, if_pos (by first | decide | omega)]
      · rw [if_neg q2]
/-- the rate of the i-th loan of a tender -/
noncomputable def rto (r : Nat → Int) (l : List (Nat × Int)) (one : Int) (q : Nat × Int) : Int := if one = 0 then r q.1 else r (l.getLast?.getD (0, 0)).1
theorem x_lendL {n sz : Nat} {l : List (Nat × Int)} {day one : Int} (hn : n ≤ 12) (h2 : T.2 63 2 = n) (h5 : T.2 63 5 = l.length) (h12 : l.length ≤ 12) (hz : sz + l.length ≤ 30) (hm : ∀ q ∈ l, q.1 < n) (hl : ∀ (j : Nat) (q : Nat × Int), l[j]? = some q → T.2 66 j = q.1 ∧ T.2 67 j = q.2) : ∀ (m i : Nat) (V : AH), i + m = l.length → V.1 = T.1 → (∀ a, a ≠ 63 → ¬ (68 ≤ a ∧ a ≤ 71) → V.2 a = T.2 a) → (∀ k, k ≠ 10 → V.2 63 k = T.2 63 k) → V.2 63 10 = ((sz + i : Nat) : Int) → (∀ a j, 68 ≤ a → a ≤ 71 → j < sz → V.2 a j = T.2 a j) → (∀ (j : Nat) (q : Nat × Int), j < i → l[j]? = some q → V.2 68 (sz + j) = q.2 ∧ V.2 69 (sz + j) = rto (T.2 65) l one q ∧ V.2 70 (sz + j) = day ∧ V.2 71 (sz + j) = -1) →
    ∃ U, LQ (WK L xs) (ev (WK L xs) d) 115 2 [some (vr 63), some (vi day), some (vi one), some (vi (i : Int)), none] [] V = some ((l.length : Int), U) ∧ U.1 = T.1 ∧ (∀ a, a ≠ 63 → ¬ (68 ≤ a ∧ a ≤ 71) → U.2 a = T.2 a) ∧ (∀ k, k ≠ 10 → k ≠ 2 → U.2 63 k = T.2 63 k) ∧ U.2 63 2 = 0 ∧ U.2 63 10 = ((sz + l.length : Nat) : Int) ∧ (∀ a j, 68 ≤ a → a ≤ 71 → j < sz → U.2 a j = T.2 a j) ∧ ∀ (j : Nat) (q : Nat × Int), l[j]? = some q → U.2 68 (sz + j) = q.2 ∧ U.2 69 (sz + j) = rto (T.2 65) l one q ∧ U.2 70 (sz + j) = day ∧ U.2 71 (sz + j) = -1 := by
  intro m
  induction m with
  | zero =>
    intro i V hi v1 v2 v3 v4 v5 v6
    have hi' : i = l.length := by omega
    refine ⟨wr V 63 2 0, ?_, v1, fun a q1 q2 => by rw [wr_c q1]; exact v2 a q1 q2, fun k q1 q2 => by rw [wr_f, if_neg q2]; exact v3 k q1, by rw [wr_f, if_pos rfl], by rw [wr_f, if_neg (by decide), v4, hi'], fun a j q1 q2 q3 => by rw [wr_c (by first | decide | omega)]; exact v5 a j q1 q2 q3, fun j q hq => ?_⟩
    · rw [q_115_2, v3 5 (by decide), h5, if_neg (by first | decide | omega)]
    · have hj := (List.getElem?_eq_some_iff.mp hq).1
      rw [wr_c (by decide), wr_c (by decide), wr_c (by decide), wr_c (by decide)]
      exact v6 j q (by first | decide | omega) hq
  | succ m ih =>
    intro i V hi v1 v2 v3 v4 v5 v6
    have hil : i < l.length := by omega
    have hx : l[i]? = some l[i] := List.getElem?_eq_getElem hil
    obtain ⟨x1, x2⟩ := hl i _ hx
    have hx3 := hm l[i] (List.getElem_mem hil)
    have hll : l.length - 1 < l.length := by omega
    have hy : l[l.length - 1]? = some l[l.length - 1] := List.getElem?_eq_getElem hll
    obtain ⟨y1, -⟩ := hl (l.length - 1) _ hy
    have hy3 := hm l[l.length - 1] (List.getElem_mem hll)
    have hlast : l.getLast?.getD (0, 0) = l[l.length - 1] := by rw [List.getLast?_eq_getElem?, hy]; rfl
    have hzi : (0 : Int) ≤ ((sz + i : Nat) : Int) ∧ ((sz + i : Nat) : Int) < 30 := by omega
    have go : ∀ (tt : Nat) (z : Nat), V.2 66 tt = z → tt < 12 → z < n → T.2 65 z = rto (T.2 65) l one l[i] → ∃ U, LQ (WK L xs) (ev (WK L xs) d) 115 40 [some (vr 63), some (vi day), some (vi one), some (vi (i : Int)), none] [vi (tt : Int), vr 66] V = some ((l.length : Int), U) ∧ U.1 = T.1 ∧ (∀ a, a ≠ 63 → ¬ (68 ≤ a ∧ a ≤ 71) → U.2 a = T.2 a) ∧ (∀ k, k ≠ 10 → k ≠ 2 → U.2 63 k = T.2 63 k) ∧ U.2 63 2 = 0 ∧ U.2 63 10 = ((sz + l.length : Nat) : Int) ∧ (∀ a j, 68 ≤ a → a ≤ 71 → j < sz → U.2 a j = T.2 a j) ∧ ∀ (j : Nat) (q : Nat × Int), l[j]? = some q → U.2 68 (sz + j) = q.2 ∧ U.2 69 (sz + j) = rto (T.2 65) l one q ∧ U.2 70 (sz + j) = day ∧ U.2 71 (sz + j) = -1 := by
      intro tt z hz1 htt hzn hrt
      have := ih (i + 1) (wr (wr (wr (wr (wr V 68 (sz + i) l[i].2) 69 (sz + i) (T.2 65 z)) 70 (sz + i) day) 71 (sz + i) (-1)) 63 10 ((sz + (i + 1) : Nat) : Int)) (by first | decide | omega) v1 (fun a q1 q2 => by rw [wr_c q1, wr_c (by first | decide | omega), wr_c (by first | decide | omega), wr_c (by first | decide | omega), wr_c (by first | decide | omega)]; exact v2 a q1 q2) (fun k hk => by rw [wr_f, if_neg hk, wr_c (by decide), wr_c (by decide), wr_c (by decide), wr_c (by decide)]; exact v3 k hk) (by rw [wr_f, if_pos rfl]) (fun a j q1 q2 q3 => by
        rw [← v5 a j q1 q2 q3]
        simp only [wr_2]
        rw [if_neg (by first | decide | omega), if_neg (by first | decide | omega), if_neg (by first | decide | omega), if_neg (by first | decide | omega), if_neg (by first | decide | omega)]) (fun j q hj hq => by
        simp only [wr_2]
        by_cases e : j = i
        · subst e
          rw [hx] at hq
          have hq := Option.some.inj hq
          subst hq
          simp [hrt]
        · obtain ⟨w1, w2, w3, w4⟩ := v6 j q (by first | decide | omega) hq
          have e2 : ¬ (sz + j = sz + i) := by omega
          simp [e2, w1, w2, w3, w4, e])
      rw [q_115_40, if_pos (by first | decide | omega), if_pos (by first | decide | omega), v4, if_pos hzi, Int.toNat_natCast, Int.toNat_natCast, Int.toNat_natCast, hz1, if_neg (by first | decide | omega), v3 2 (by decide), h2, if_pos (by first | decide | omega), if_pos (by first | decide | omega), Int.toNat_natCast, v2 65 (by decide) (by decide), v2 67 (by decide) (by decide), x2, q_115_91]
      simp only [wr_c (show (63 : Nat) ≠ 68 by decide), v4, Int.toNat_natCast]
      rw [if_pos hzi, if_pos hzi, if_pos hzi, w32e (by first | decide | omega) (by first | decide | omega), w32e (by first | decide | omega) (by first | decide | omega), show (i : Int) + 1 = ((i + 1 : Nat) : Int) by omega, show ((sz + i : Nat) : Int) + 1 = ((sz + (i + 1) : Nat) : Int) by omega]
      exact this
    rw [q_115_2, v3 5 (by decide), h5, if_pos (by first | decide | omega), v4, if_pos (by first | decide | omega)]
    by_cases ho : one = 0
    · rw [if_pos ho]
      refine go i l[i].1 (by rw [v2 66 (by decide) (by decide)]; exact x1) (by first | decide | omega) hx3 ?_
      unfold rto
      rw [if_pos ho]
    · rw [if_neg ho, w32e (by first | decide | omega) (by first | decide | omega), show ((l.length : Nat) : Int) - 1 = ((l.length - 1 : Nat) : Int) by omega]
      refine go (l.length - 1) l[l.length - 1].1 (by rw [v2 66 (by decide) (by decide)]; exact y1) (by first | decide | omega) hy3 ?_
      unfold rto
      rw [if_neg ho, hlast]
end
