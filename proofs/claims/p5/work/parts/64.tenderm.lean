/-! tender: the reference's loops -/
section
variable {L : Nat} {xs : Nat → Int} {d : Nat} {S T U : AH}
/-- the rate of the last one taken -/
noncomputable def hiR (r : Nat → Int) (l : List (Nat × Int)) (high : Int) : Int := match l.getLast? with
  | some q => r q.1
  | none => high
theorem hiR_nil (r : Nat → Int) (high : Int) : hiR r [] high = high := rfl
theorem hiR_cons (r : Nat → Int) (q : Nat × Int) (l : List (Nat × Int)) (high : Int) : hiR r (q :: l) high = hiR r l (r q.1) := by
  unfold hiR
  rw [List.getLast?_cons]
  cases l.getLast? <;> rfl
theorem m_clr1 {n : Nat} (hn : n ≤ 12) {p one : Int} : ∀ (m i : Nat) (S : AH), i + m = n → S.2 72 92 = n → (∀ b, b < i → S.2 141 b = 0) → ∃ T, LQ (WK L xs) (ev (WK L xs) (d + 1)) 293 16 [some (vr 72), some (vi p), some (vi one), some (vi (i : Int)), none, none, none, none] [] S = LQ (WK L xs) (ev (WK L xs) (d + 1)) 293 51 [some (vr 72), some (vi p), some (vi one), some (vi p), some (vi 0), some (vi 0), some (vi (lwB (S.2 140) (fun _ => false) n)), none] [] T ∧ T.1 = S.1 ∧ (∀ a, a ≠ 141 → T.2 a = S.2 a) ∧ ∀ b, b < n → T.2 141 b = 0 := by
  intro m
  induction m with
  | zero =>
    intro i S hi h2 h3
    refine ⟨S, ?_, rfl, fun _ _ => rfl, fun b hb => h3 b (by first | decide | omega)⟩
    rw [q_293_16, h2, if_neg (by first | decide | omega), m_low hn h2 (t := fun _ => false) (fun b hb => by rw [h3 b (by first | decide | omega)]; rfl), bR]
  | succ m ih =>
    intro i S hi h2 h3
    obtain ⟨T, t1, t2, t3, t4⟩ := ih (i + 1) (wr S 141 i 0) (by first | decide | omega) (by rw [wr_c (by decide)]; exact h2) (fun b hb => by
      rw [wr_f]
      by_cases e : b = i
      · rw [if_pos e]
      · rw [if_neg e]; exact h3 b (by first | decide | omega))
    rw [wr_c (by decide)] at t1
    refine ⟨T, ?_, t2, fun a ha => by rw [t3 a ha, wr_c ha], t4⟩
    rw [q_293_16, h2, if_pos (by first | decide | omega), if_pos (by first | decide | omega), Int.toNat_natCast, w32e (by first | decide | omega) (by first | decide | omega), show (i : Int) + 1 = ((i + 1 : Nat) : Int) by omega, t1]
theorem m_clr2 {n : Nat} (hn : n ≤ 12) {one x3 x4 x5 : Int} : ∀ (m i : Nat) (S : AH), i + m = n → S.2 72 92 = n → (∀ b, b < i → S.2 141 b = 0) → ∃ T, LQ (WK L xs) (ev (WK L xs) d) 293 163 [some (vr 72), none, some (vi one), some (vi x3), some (vi x4), some (vi x5), none, some (vi (i : Int))] [] S = LQ (WK L xs) (ev (WK L xs) d) 293 189 [some (vr 72), none, some (vi one), some (vi x3), some (vi x4), some (vi x5), none, some (vi 0)] [] T ∧ T.1 = S.1 ∧ (∀ a, a ≠ 141 → T.2 a = S.2 a) ∧ ∀ b, b < n → T.2 141 b = 0 := by
  intro m
  induction m with
  | zero =>
    intro i S hi h2 h3
    refine ⟨S, ?_, rfl, fun _ _ => rfl, fun b hb => h3 b (by first | decide | omega)⟩
    rw [q_293_163, h2, if_neg (by first | decide | omega)]
  | succ m ih =>
    intro i S hi h2 h3
    obtain ⟨T, t1, t2, t3, t4⟩ := ih (i + 1) (wr S 141 i 0) (by first | decide | omega) (by rw [wr_c (by decide)]; exact h2) (fun b hb => by
      rw [wr_f]
      by_cases e : b = i
      · rw [if_pos e]
      · rw [if_neg e]; exact h3 b (by first | decide | omega))
    refine ⟨T, ?_, t2, fun a ha => by rw [t3 a ha, wr_c ha], t4⟩
    rw [q_293_163, h2, if_pos (by first | decide | omega), if_pos (by first | decide | omega), Int.toNat_natCast, w32e (by first | decide | omega) (by first | decide | omega), show (i : Int) + 1 = ((i + 1 : Nat) : Int) by omega, t1]
theorem m_tk1 {n : Nat} (hn : n ≤ 12) {p one : Int} : ∀ (m i : Nat) (left high : Int) (t : Nat → Bool) (S : AH), i + m = n → cn t n + m = n → S.2 72 92 = n → (∀ b, b < n → S.2 141 b = if t b then 1 else 0) → 0 ≤ left → left ≤ 1000000000 → (∀ b, b < n → 1 ≤ S.2 139 b ∧ S.2 139 b ≤ 1000000000) →
    ∃ T, LQ (WK L xs) (ev (WK L xs) (d + 1)) 293 51 [some (vr 72), some (vi p), some (vi one), some (vi left), some (vi (i : Int)), some (vi high), some (vi (lwB (S.2 140) t n)), none] [] S = LQ (WK L xs) (ev (WK L xs) (d + 1)) 293 115 [some (vr 72), some (vi p), some (vi one), some (vi (left - tks (tk (S.2 139) (S.2 140) n m left t))), some (vi ((i + (tk (S.2 139) (S.2 140) n m left t).length : Nat) : Int)), some (vi (hiR (S.2 140) (tk (S.2 139) (S.2 140) n m left t) high)), none, none] [] T ∧ T.1 = S.1 ∧ ∀ a, a ≠ 141 → T.2 a = S.2 a := by
  intro m
  induction m with
  | zero =>
    intro i left high t S hi hc h2 ht hl1 hl2 hs
    refine ⟨S, ?_, rfl, fun _ _ => rfl⟩
    have hb := lwB_bd (r := S.2 140) (t := t) (n := n)
    have hN : lwB (S.2 140) t n = -1 := by
      rcases hb with hb | ⟨b1, b2, b3⟩
      · exact hb
      · have := cn_full n (by first | decide | omega) (lwB (S.2 140) t n).toNat (by first | decide | omega)
        rw [b3] at this
        cases this
    simp only [tk]
    rw [q_293_51, hN, tks_nil, Int.sub_zero, hiR_nil]
    by_cases q : 0 < left
    · rw [if_pos q, if_pos rfl]
      rfl
    · rw [if_neg q]
      rfl
  | succ m ih =>
    intro i left high t S hi hc h2 ht hl1 hl2 hs
    have hb := lwB_bd (r := S.2 140) (t := t) (n := n)
    simp only [tk]
    by_cases q : 0 < left ∧ lwB (S.2 140) t n ≠ -1
    · rw [if_pos q]
      obtain ⟨b, hbe⟩ := Int.eq_ofNat_of_zero_le (show 0 ≤ lwB (S.2 140) t n by omega)
      rw [hbe] at hb q ⊢
      rw [Int.toNat_natCast] at hb ⊢
      have hbn : b < n := by omega
      have hbt : t b = false := by
        rcases hb with hb | hb
        · omega
        · exact hb.2.2
      have hv := hs b hbn
      have hcs := cn_set (t := t) n hbn hbt
      have ht' : ∀ k, k < n → (wr S 141 b 1).2 141 k = if (t k || k == b) = true then 1 else 0 := fun k hk => by
        rw [wr_f]
        by_cases e : k = b
        · subst e; simp
        · have : (k == b) = false := by simp; exact e
          rw [if_neg e, ht k hk, this, Bool.or_false]
      obtain ⟨T, t1, t2, t3⟩ := ih (i + 1) (left - min left (S.2 139 b)) (S.2 140 b) (fun k => t k || k == b) (wr S 141 b 1) (by first | decide | omega) (by first | decide | omega) (by rw [wr_c (by decide)]; exact h2) ht' (by first | decide | omega) (by first | decide | omega) (fun k hk => by rw [wr_c (by decide)]; exact hs k hk)
      rw [wr_c (show (139 : Nat) ≠ 141 by decide), wr_c (show (140 : Nat) ≠ 141 by decide)] at t1
      refine ⟨T, ?_, t2, fun a ha => by rw [t3 a ha, wr_c ha]⟩
      have hq : (0 : Int) ≤ (b : Int) ∧ (b : Int) < 12 := by omega
      have hlow := m_low (L := L) (xs := xs) (d := d) (S := wr S 141 b 1) (t := fun k => t k || k == b) hn (by rw [wr_c (by decide)]; exact h2) ht'
      rw [wr_c (show (140 : Nat) ≠ 141 by decide)] at hlow
      rw [tks_cons, hiR_cons, List.length_cons, q_293_51, if_pos q.1, if_neg (by first | decide | omega), if_pos hq, Int.toNat_natCast]
      have fin : ∀ v : Int, v = min left (S.2 139 b) → LQ (WK L xs) (ev (WK L xs) (d + 1)) 293 84 [some (vr 72), some (vi p), some (vi one), none, some (vi (i : Int)), none, some (vi (b : Int)), none] [vi v, vi left] S = LQ (WK L xs) (ev (WK L xs) (d + 1)) 293 115 [some (vr 72), some (vi p), some (vi one), some (vi (left - (min left (S.2 139 b) + tks (tk (S.2 139) (S.2 140) n m (left - min left (S.2 139 b)) (fun k => t k || k == b))))), some (vi ((i + ((tk (S.2 139) (S.2 140) n m (left - min left (S.2 139 b)) (fun k => t k || k == b)).length + 1) : Nat) : Int)), some (vi (hiR (S.2 140) (tk (S.2 139) (S.2 140) n m (left - min left (S.2 139 b)) (fun k => t k || k == b)) (S.2 140 b))), none, none] [] T := by
        intro v hv2
        rw [q_293_84, if_pos hq, if_pos hq, Int.toNat_natCast, hlow, bR, w32e (by first | decide | omega) (by first | decide | omega), w32e (by first | decide | omega) (by first | decide | omega), hv2, show (i : Int) + 1 = ((i + 1 : Nat) : Int) by omega, t1, Int.sub_sub, show i + 1 + (tk (S.2 139) (S.2 140) n m (left - min left (S.2 139 b)) (fun k => t k || k == b)).length = i + ((tk (S.2 139) (S.2 140) n m (left - min left (S.2 139 b)) (fun k => t k || k == b)).length + 1) by omega]
      by_cases h3 : S.2 139 b < left
      · rw [if_pos h3, if_pos hq]
        exact fin _ (by first | decide | omega)
      · rw [if_neg h3]
        exact fin _ (by first | decide | omega)
    · rw [if_neg q]
      refine ⟨S, ?_, rfl, fun _ _ => rfl⟩
      rw [q_293_51, tks_nil, Int.sub_zero, hiR_nil]
      by_cases q2 : 0 < left
      · rw [if_pos q2, if_pos (by first | decide | omega)]
        rfl
      · rw [if_neg q2]
        rfl
theorem m_tk3 {n N : Nat} (hn : n ≤ 12) {one high : Int} : ∀ (m i sz : Nat) (left : Int) (t : Nat → Bool) (S : AH), i + (tk (S.2 139) (S.2 140) n m left t).length = N → S.2 72 92 = n → S.2 72 93 = sz → sz + (tk (S.2 139) (S.2 140) n m left t).length ≤ 30 → N ≤ 12 → (∀ b, b < n → S.2 141 b = if t b then 1 else 0) → 0 ≤ left → left ≤ 1000000000 → (∀ b, b < n → 1 ≤ S.2 139 b ∧ S.2 139 b ≤ 1000000000) → w64 (S.2 72 3) = S.2 72 3 →
    ∃ T, LQ (WK L xs) (ev (WK L xs) (d + 1)) 293 189 [some (vr 72), none, some (vi one), some (vi left), some (vi (N : Int)), some (vi high), none, some (vi (i : Int))] [] S = some ((N : Int), T) ∧ T.1 = S.1 ∧ (∀ a, a ≠ 72 → ¬ (141 ≤ a ∧ a ≤ 145) → T.2 a = S.2 a) ∧ (∀ k, k ≠ 3 → k ≠ 92 → k ≠ 93 → T.2 72 k = S.2 72 k) ∧ T.2 72 92 = 0 ∧ T.2 72 93 = ((sz + (tk (S.2 139) (S.2 140) n m left t).length : Nat) : Int) ∧ T.2 72 3 = w64 (S.2 72 3 + tks (tk (S.2 139) (S.2 140) n m left t)) ∧ (∀ a j, 142 ≤ a → a ≤ 145 → j < sz → T.2 a j = S.2 a j) ∧ ∀ (j : Nat) (q : Nat × Int), (tk (S.2 139) (S.2 140) n m left t)[j]? = some q → T.2 142 (sz + j) = q.2 ∧ T.2 143 (sz + j) = (if one = 0 then S.2 140 q.1 else high) ∧ T.2 144 (sz + j) = S.2 72 2 ∧ T.2 145 (sz + j) = -1 := by
  have stop : ∀ (i sz : Nat) (left : Int) (S : AH), i = N → S.2 72 93 = sz → w64 (S.2 72 3) = S.2 72 3 → ∃ T, LQ (WK L xs) (ev (WK L xs) (d + 1)) 293 189 [some (vr 72), none, some (vi one), some (vi left), some (vi (N : Int)), some (vi high), none, some (vi (i : Int))] [] S = some ((N : Int), T) ∧ T.1 = S.1 ∧ (∀ a, a ≠ 72 → ¬ (141 ≤ a ∧ a ≤ 145) → T.2 a = S.2 a) ∧ (∀ k, k ≠ 3 → k ≠ 92 → k ≠ 93 → T.2 72 k = S.2 72 k) ∧ T.2 72 92 = 0 ∧ T.2 72 93 = ((sz + 0 : Nat) : Int) ∧ T.2 72 3 = w64 (S.2 72 3 + 0) ∧ (∀ a j, 142 ≤ a → a ≤ 145 → j < sz → T.2 a j = S.2 a j) := by
    intro i sz left S hi h3 hw
    refine ⟨wr S 72 92 0, ?_, rfl, fun a q1 q2 => wr_c q1, fun k q1 q2 q3 => by rw [wr_f, if_neg q2], by rw [wr_f, if_pos rfl], by rw [wr_f, if_neg (by decide), h3]; rfl, by rw [wr_f, if_neg (by decide), Int.add_zero, hw], fun a j q1 q2 q3 => by rw [wr_c (by first | decide | omega)]⟩
    rw [q_293_189, if_neg (by first | decide | omega)]
  intro m
  induction m with
  | zero =>
    intro i sz left t S hi h2 h3 hz hN ht hl1 hl2 hs hw
    obtain ⟨T, t1, t2, t3, t4, t5, t6, t7, t8⟩ := stop i sz left S hi h3 hw
    exact ⟨T, t1, t2, t3, t4, t5, t6, t7, t8, fun j q hq => by cases hq⟩
  | succ m ih =>
    intro i sz left t S hi h2 h3 hz hN ht hl1 hl2 hs hw
    have hb := lwB_bd (r := S.2 140) (t := t) (n := n)
    simp only [tk] at hi hz ⊢
    by_cases q : 0 < left ∧ lwB (S.2 140) t n ≠ -1
    · rw [if_pos q] at hi hz ⊢
      obtain ⟨b, hbe⟩ := Int.eq_ofNat_of_zero_le (show 0 ≤ lwB (S.2 140) t n by omega)
      have hlow := m_low (L := L) (xs := xs) (d := d) (S := S) (t := t) hn h2 ht
      rw [hbe] at hb q hlow hi hz ⊢
      rw [Int.toNat_natCast] at hb hi hz ⊢
      rw [List.length_cons] at hi hz ⊢
      have hbn : b < n := by omega
      have hv := hs b hbn
      generalize hR : (if one = 0 then S.2 140 b else high) = rt
      generalize hM : min left (S.2 139 b) = mn at hi hz ⊢
      generalize hS2 : wr (wr (wr (wr (wr (wr (wr S 141 b 1) 142 sz mn) 143 sz rt) 144 sz (S.2 72 2)) 145 sz (-1)) 72 3 (w64 (S.2 72 3 + mn))) 72 93 ((sz + 1 : Nat) : Int) = S2
      have f1 : ∀ a, a ≠ 72 → ¬ (141 ≤ a ∧ a ≤ 145) → S2.2 a = S.2 a := fun a q1 q2 => by rw [← hS2, wr_c q1, wr_c q1, wr_c (by first | decide | omega), wr_c (by first | decide | omega), wr_c (by first | decide | omega), wr_c (by first | decide | omega), wr_c (by first | decide | omega)]
      have f2 : ∀ k, k ≠ 3 → k ≠ 93 → S2.2 72 k = S.2 72 k := fun k q1 q2 => by rw [← hS2, wr_f, if_neg q2, wr_f, if_neg q1, wr_c (by decide), wr_c (by decide), wr_c (by decide), wr_c (by decide), wr_c (by decide)]
      have f3 : S2.2 72 3 = w64 (S.2 72 3 + mn) := by rw [← hS2, wr_f, if_neg (by decide), wr_f, if_pos rfl]
      have f4 : S2.2 72 93 = ((sz + 1 : Nat) : Int) := by rw [← hS2, wr_f, if_pos rfl]
      have f5 : ∀ k, k < n → S2.2 141 k = if (t k || k == b) = true then 1 else 0 := fun k hk => by
        rw [← hS2, wr_c (by decide), wr_c (by decide), wr_c (by decide), wr_c (by decide), wr_c (by decide), wr_c (by decide), wr_f]
        by_cases e : k = b
        · subst e; simp
        · have : (k == b) = false := by simp; exact e
          rw [if_neg e, ht k hk, this, Bool.or_false]
      have f6 : S2.2 142 sz = mn ∧ S2.2 143 sz = rt ∧ S2.2 144 sz = S.2 72 2 ∧ S2.2 145 sz = -1 := by
        rw [← hS2]
        simp [wr_2]
      have f7 : ∀ a j, 142 ≤ a → a ≤ 145 → j < sz → S2.2 a j = S.2 a j := fun a j q1 q2 q3 => by
        rw [← hS2]
        simp only [wr_2]
        rw [if_neg (by first | decide | omega), if_neg (by first | decide | omega), if_neg (by first | decide | omega), if_neg (by first | decide | omega), if_neg (by first | decide | omega), if_neg (by first | decide | omega), if_neg (by first | decide | omega)]
      have g1 := f1 139 (by decide) (by decide)
      have g2 := f1 140 (by decide) (by decide)
      obtain ⟨T, t1, t2, t3, t4, t5, t6, t7, t8, t9⟩ := ih (i + 1) (sz + 1) (left - mn) (fun k => t k || k == b) S2 (by rw [g1, g2]; omega) (by rw [f2 92 (by decide) (by decide)]; exact h2) f4 (by rw [g1, g2]; omega) hN f5 (by first | decide | omega) (by first | decide | omega) (fun k hk => by rw [g1]; exact hs k hk) (by rw [f3, w64_i])
      rw [g1, g2] at t6 t7 t9
      refine ⟨T, ?_, by rw [t2, ← hS2]; rfl, fun a q1 q2 => by rw [t3 a q1 q2, f1 a q1 q2], fun k q1 q2 q3 => by rw [t4 k q1 q2 q3, f2 k q1 q3], t5, by rw [t6]; omega, ?_, fun a j q1 q2 q3 => by rw [t8 a j q1 q2 (by first | decide | omega), f7 a j q1 q2 q3], fun j x hx => ?_⟩
      · have hq : (0 : Int) ≤ (b : Int) ∧ (b : Int) < 12 := by omega
        have hz3 : (0 : Int) ≤ (sz : Int) ∧ (sz : Int) < 30 := by omega
        have fin : ∀ (v rr : Int), v = mn → rr = rt → LQ (WK L xs) (ev (WK L xs) (d + 1)) 293 265 [some (vr 72), none, some (vi one), some (vi left), some (vi (N : Int)), some (vi high), none, some (vi (i : Int))] [vi rr, vi (sz : Int), vr 143] (wr (wr S 141 b 1) 142 sz v) = some ((N : Int), T) := by
          intro v rr hv1 hv2
          subst hv1
          subst hv2
          rw [q_293_265]
          simp only [wr_f, wr_c (show (72 : Nat) ≠ 141 by decide), wr_c (show (72 : Nat) ≠ 142 by decide), h3, Int.toNat_natCast, if_pos trivial]
          rw [if_pos hz3, if_pos hz3, if_pos hz3, if_pos hz3, if_pos hz3, w32e (by first | decide | omega) (by first | decide | omega), w32e (by first | decide | omega) (by first | decide | omega), w32e (by first | decide | omega) (by first | decide | omega), show (i : Int) + 1 = ((i + 1 : Nat) : Int) by omega, show (sz : Int) + 1 = ((sz + 1 : Nat) : Int) by omega]
          rw [← t1, ← hS2]
        rw [q_293_189, if_pos (by first | decide | omega), hlow, bR, if_pos hq, if_pos hq, h3, Int.toNat_natCast, Int.toNat_natCast]
        by_cases c1 : S.2 139 b < left
        · rw [if_pos c1, if_pos hq, if_pos hz3]
          by_cases c2 : one = 0
          · rw [if_pos c2] at hR
            rw [if_pos c2, if_pos hq]
            exact fin _ _ (by first | decide | omega) hR
          · rw [if_neg c2] at hR
            rw [if_neg c2]
            exact fin _ _ (by first | decide | omega) hR
        · rw [if_neg c1, if_pos hz3]
          by_cases c2 : one = 0
          · rw [if_pos c2] at hR
            rw [if_pos c2, if_pos hq]
            exact fin _ _ (by first | decide | omega) hR
          · rw [if_neg c2] at hR
            rw [if_neg c2]
            exact fin _ _ (by first | decide | omega) hR
      · rw [t7, f3, w64_al, tks_cons, Int.add_assoc]
      · cases j with
        | zero =>
          have hx2 : ((b, mn) : Nat × Int) = x := by
            rw [List.getElem?_cons_zero] at hx
            exact Option.some.inj hx
          rw [← hx2, Nat.add_zero, t8 142 sz (by decide) (by decide) (by first | decide | omega), t8 143 sz (by decide) (by decide) (by first | decide | omega), t8 144 sz (by decide) (by decide) (by first | decide | omega), t8 145 sz (by decide) (by decide) (by first | decide | omega), hR]
          exact f6
        | succ j =>
          rw [List.getElem?_cons_succ] at hx
          have := t9 j x hx
          rw [show sz + 1 + j = sz + (j + 1) by omega, f2 2 (by decide) (by decide)] at this
          exact this
    · rw [if_neg q] at hi hz ⊢
      obtain ⟨T, t1, t2, t3, t4, t5, t6, t7, t8⟩ := stop i sz left S hi h3 hw
      exact ⟨T, t1, t2, t3, t4, t5, t6, t7, t8, fun j q hq => by cases hq⟩
end
