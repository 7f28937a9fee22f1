/-! drawn, found, sum -/
/-- the claim c is tested, and was paid in y -/
noncomputable def tst (h : Nat → Nat → Int) (c : Nat) (y : Int) : Bool := decide (pin h c y = true ∧ h 120 c ≠ 0 ∧ h 121 c = 1)
noncomputable def dwL (f : Nat → Bool) (want : Int) : Nat → Nat → Int → Int
  | 0, _, _ => -1
  | m + 1, c, k => if f c = true then (if k = want then (c : Int) else dwL f want m (c + 1) (k + 1)) else dwL f want m (c + 1) k
/-- what the claim c adds to what is found -/
noncomputable def fT (h : Nat → Nat → Int) (y what : Int) (c : Nat) : Int := if what = 0 then (if tst h c y = true then h 122 c else 0) else if what = 1 then (if tst h c y = true then (if h 111 c < h 146 y.toNat then ldiv (w64 (h 122 c * h 146 y.toNat)) (h 111 c) else h 122 c) else 0) else (if pin h c y = true then (if tst h c y = true then h 122 c else h 111 c) else 0)
section
variable {L : Nat} {xs : Nat → Int} {d : Nat} {S S' : AH} {o : Nat}
theorem nC (H : GK S) : S.2 72 52 = (nClaims S.2 : Int) ∧ nClaims S.2 ≤ 300 := by
  have := H.n
  unfold nClaims
  omega
theorem x_tst (H : GK S) {c : Nat} (hc : (c : Int) < S.2 72 52) (y : Int) : ev (WK L xs) (d + 3) 78 [vr (clA S c), vi y] S = some (bi (tst S.2 c y = true), S) := by
  have h := H.ob hc
  obtain ⟨a1, a2, a3, a4, a5, a6, a7, a8, a9, a10, a11, a12, a13, a14, a15, a16⟩ := H.2.2.2.2.1 c hc
  obtain ⟨r1, r2, r3, r4, r5, r6, r7, r8, r9, r10, r11, r12, r13⟩ := H.1.2.2.2.1 c hc
  rw [q_78, k12 h, rdvD h.1, a14]
  unfold tst pin
  by_cases h1 : S.2 120 c = 0
  · rw [if_pos h1, bi_F (by simp [h1])]
  · rw [if_neg h1, k12 h, rdvD h.1, a15]
    by_cases h2 : S.2 121 c = 1
    · rw [if_pos h2, if_neg (by first | decide | omega), k12a h, x_paidIn h, bR, a9]
      simp only [bi_0]
      rw [ite_bin]
      congr 2
      apply bi_iff
      simp [h1, h2]
    · rw [if_neg h2, if_pos rfl, bi_F (by simp [h2])]
theorem x_pin (H : GK S) {c : Nat} (hc : (c : Int) < S.2 72 52) (y : Int) : ev (WK L xs) (d + 2) 75 [vr (clA S c), vi y] S = some (bi (pin S.2 c y = true), S) := by
  have h := H.ob hc
  rw [x_paidIn h, (H.2.2.2.2.1 c hc).2.2.2.2.2.2.2.2.1]
  congr 2
  apply bi_iff
  unfold pin
  simp
theorem o_drawn (H : Inv S) (p q : Int) : Ok L xs 52 300 [vi p, vi q] S := by
  have gk := H.gk
  obtain ⟨hn, hn3⟩ := nC gk
  by_cases hp : (0 ≤ p ∧ p < 10) ∧ ¬ q < 0
  · have kx : ∀ (m c : Nat) (k : Int), c + m = nClaims S.2 → 0 ≤ k → k ≤ c → LQ (WK L xs) (ev (WK L xs) 198) 86 5 [some (vr 43), some (vi p), some (vi q), some (vi k), some (vi (c : Int)), none] [] S = some (dwL (fun c => decide (pin S.2 c p = true ∧ S.2 120 c ≠ 0)) q m c k, S) := by
      intro m
      induction m with
      | zero =>
        intro c k hc h0 hk
        rw [q_86_5, gk.2.1, hn, if_neg (by first | decide | omega)]
        rfl
      | succ m ih =>
        intro c k hc h0 hk
        have hcl : (c : Int) < S.2 72 52 := by omega
        have ho := gk.ob hcl
        have h5 := ho.1
        have e1 : (c : Int) + 1 = ((c + 1 : Nat) : Int) := by omega
        have i1 := ih (c + 1) k (by first | decide | omega) h0 (by first | decide | omega)
        have i2 := ih (c + 1) (k + 1) (by first | decide | omega) (by first | decide | omega) (by first | decide | omega)
        rw [q_86_5, gk.2.1, if_pos hcl, x_cl gk hcl, bR, Int.toNat_natCast, if_neg (by first | decide | omega), g14 ho, k12 ho, rdvD h5, (gk.2.2.2.2.1 c hcl).2.2.2.2.2.2.2.2.2.2.2.2.2.1, k12a ho, x_pin gk hcl, bR, w32e (x := (c : Int) + 1) (by first | decide | omega) (by first | decide | omega), w32e (x := k + 1) (by first | decide | omega) (by first | decide | omega), e1, i1, i2]
        simp only [bi_0, dwL, decide_eq_true_eq]
        by_cases h1 : S.2 120 c = 0
        · rw [if_pos h1, if_neg (fun z => z.2 h1)]
        · rw [if_neg h1]
          by_cases h2 : pin S.2 c p = true
          · rw [if_neg (fun z => z h2), if_pos (show pin S.2 c p = true ∧ S.2 120 c ≠ 0 from ⟨h2, h1⟩)]
            by_cases h3 : k = q
            · rw [if_pos h3, if_pos h3]
            · rw [if_neg h3, if_neg h3]
          · rw [if_pos h2, if_neg (fun z => h2 z.1)]
    have km : ∀ (m c : Nat) (k : Int), c + m = nClaims S.2 → 0 ≤ k → k ≤ c → LQ (WK L xs) (ev (WK L xs) 199) 300 23 [some (vr 72), some (vi p), some (vi q), some (vi k), some (vi (c : Int))] [] S = some (dwL (fun c => decide (pin S.2 c p = true ∧ S.2 120 c ≠ 0)) q m c k, S) := by
      intro m
      induction m with
      | zero =>
        intro c k hc h0 hk
        rw [q_300_23, hn, if_neg (by first | decide | omega)]
        rfl
      | succ m ih =>
        intro c k hc h0 hk
        have e1 : (c : Int) + 1 = ((c + 1 : Nat) : Int) := by omega
        have i1 := ih (c + 1) k (by first | decide | omega) h0 (by first | decide | omega)
        have i2 := ih (c + 1) (k + 1) (by first | decide | omega) (by first | decide | omega) (by first | decide | omega)
        rw [q_300_23, hn, if_pos (by first | decide | omega), m_paidIn (by first | decide | omega), bR, w32e (x := (c : Int) + 1) (by first | decide | omega) (by first | decide | omega), w32e (x := k + 1) (by first | decide | omega) (by first | decide | omega), e1, i1, i2, if_pos (show (0 : Int) ≤ (c : Int) ∧ (c : Int) < 300 by omega), Int.toNat_natCast]
        simp only [bi_0, dwL, decide_eq_true_eq]
        by_cases h2 : pin S.2 c p = true
        · rw [if_neg (fun z => z h2)]
          by_cases h1 : S.2 120 c = 0
          · rw [if_pos h1, if_neg (fun z => z.2 h1)]
          · rw [if_neg h1, if_pos (show pin S.2 c p = true ∧ S.2 120 c ≠ 0 from ⟨h2, h1⟩)]
            by_cases h3 : k = q
            · rw [if_pos h3, if_pos h3]
            · rw [if_neg h3, if_neg h3]
        · rw [if_pos h2, if_neg (fun z => h2 z.1)]
    refine Ok.same (r := dwL (fun c => decide (pin S.2 c p = true ∧ S.2 120 c ≠ 0)) q (nClaims S.2) 0 0) H ?_ ?_
    · rw [q_52, x_isYear, bR]
      simp only [bi_0]
      rw [if_neg (fun z => z hp.1), if_neg hp.2, q_86]
      exact (congrArg (bindR · _) (kx (nClaims S.2) 0 0 (by first | decide | omega) (by first | decide | omega) (by first | decide | omega))).trans rfl
    · rw [q_300, m_lies, bR]
      simp only [bi_0]
      rw [if_neg (by first | decide | omega), if_neg hp.2]
      exact km (nClaims S.2) 0 0 (by first | decide | omega) (by first | decide | omega) (by first | decide | omega)
  · refine Ok.same (r := -1) H ?_ ?_
    · rw [q_52, x_isYear, bR]
      simp only [bi_0]
      by_cases h1 : 0 ≤ p ∧ p < 10
      · rw [if_neg (fun z => z h1), if_pos (by first | decide | omega)]
      · rw [if_pos h1]
    · rw [q_300, m_lies, bR]
      simp only [bi_0]
      by_cases h1 : 0 ≤ p ∧ p < 10
      · rw [if_neg (by first | decide | omega), if_pos (by first | decide | omega)]
      · rw [if_pos (by first | decide | omega)]
theorem m_fnd (gk : GK S) {p q : Int} (hp : 0 ≤ p ∧ p < 10) (hq : 0 ≤ q ∧ q ≤ 2) : ∀ (m c : Nat), c + m = nClaims S.2 → LQ (WK L xs) (ev (WK L xs) (d + 1)) 302 33 [some (vr 72), some (vi p), some (vi q), some (vl (w64 (sm (fT S.2 p q) c))), none, some (vi (c : Int)), none] [] S = some (w64 (sm (fT S.2 p q) (nClaims S.2)), S) := by
  obtain ⟨hn, hn3⟩ := nC gk
  intro m
  induction m with
  | zero =>
    intro c hc
    have e : c = nClaims S.2 := by omega
    rw [q_302_33, hn, if_neg (by first | decide | omega), e]
  | succ m ih =>
    intro c hc
    have hcl : (c : Int) < S.2 72 52 := by omega
    obtain ⟨r1, r2, r3, r4, r5, r6, r7, r8, r9, r10, r11, r12, r13⟩ := gk.1.2.2.2.1 c hcl
    have e1 : (c : Int) + 1 = ((c + 1 : Nat) : Int) := by omega
    have hq3 : (0 : Int) ≤ (c : Int) ∧ (c : Int) < 300 := by omega
    have nx : ∀ t : Int, fT S.2 p q c = t → LQ (WK L xs) (ev (WK L xs) (d + 1)) 302 33 [some (vr 72), some (vi p), some (vi q), some (vl (w64 (w64 (sm (fT S.2 p q) c) + t))), none, some (vi ((c + 1 : Nat) : Int)), none] [] S = some (w64 (sm (fT S.2 p q) (nClaims S.2)), S) := by
      intro t ht
      rw [w64_al, ← ht, ← sm_su (fT S.2 p q) c]
      exact ih (c + 1) (by first | decide | omega)
    have n0 : fT S.2 p q c = 0 → LQ (WK L xs) (ev (WK L xs) (d + 1)) 302 33 [some (vr 72), some (vi p), some (vi q), some (vl (w64 (sm (fT S.2 p q) c))), none, some (vi ((c + 1 : Nat) : Int)), none] [] S = some (w64 (sm (fT S.2 p q) (nClaims S.2)), S) := by
      intro h0
      have := nx 0 h0
      rw [Int.add_zero, w64e (w64_r _).1 (w64_r _).2] at this
      exact this
    rw [q_302_33, hn, if_pos (by first | decide | omega), m_paidIn (by first | decide | omega), bR, w32e (x := (c : Int) + 1) (by first | decide | omega) (by first | decide | omega), e1, if_pos hq3, Int.toNat_natCast]
    simp only [bi_0]
    by_cases h1 : pin S.2 c p = true
    · rw [if_neg (fun z => z h1)]
      have hno : tst S.2 c p = false → LQ (WK L xs) (ev (WK L xs) (d + 1)) 302 80 [some (vr 72), some (vi p), some (vi q), some (vl (w64 (sm (fT S.2 p q) c))), none, some (vi (c : Int)), none] [vi 0] S = some (w64 (sm (fT S.2 p q) (nClaims S.2)), S) := by
        intro ht
        rw [q_302_80, if_pos rfl, if_pos rfl, if_pos hq3, Int.toNat_natCast, w32e (x := (c : Int) + 1) (by first | decide | omega) (by first | decide | omega), e1]
        by_cases h2 : q = 2
        · rw [if_pos h2]
          refine nx _ ?_
          unfold fT
          rw [if_neg (by first | decide | omega), if_neg (by first | decide | omega), if_pos h1, ht, if_neg (by decide)]
        · rw [if_neg h2, q_302_140, if_pos rfl, w32e (x := (c : Int) + 1) (by first | decide | omega) (by first | decide | omega), e1]
          refine n0 ?_
          unfold fT
          rw [ht]
          by_cases h0 : q = 0
          · rw [if_pos h0, if_neg (by decide)]
          · rw [if_neg h0, if_pos (by first | decide | omega), if_neg (by decide)]
      by_cases h2 : S.2 120 c = 0
      · rw [if_pos h2]
        exact hno (by unfold tst; simp [h2])
      · rw [if_neg h2, if_pos hq3]
        by_cases h3 : S.2 121 c = 0
        · rw [if_pos h3]
          exact hno (by unfold tst; simp [h3])
        · have ht : tst S.2 c p = true := by
            unfold tst
            simp only [decide_eq_true_eq]
            exact ⟨h1, h2, by omega⟩
          rw [if_neg h3, q_302_80, if_neg (show ¬ (1 : Int) = 0 by decide), if_neg (show ¬ (1 : Int) = 0 by decide), if_pos hq3, Int.toNat_natCast, w32e (x := (c : Int) + 1) (by first | decide | omega) (by first | decide | omega), e1]
          by_cases h4 : q = 2
          · rw [if_pos h4]
            refine nx _ ?_
            unfold fT
            rw [if_neg (by first | decide | omega), if_neg (by first | decide | omega), if_pos h1, if_pos ht]
          · rw [if_neg h4]
            by_cases h5 : q = 0
            · rw [if_pos h5]
              refine nx _ ?_
              unfold fT
              rw [if_pos h5, if_pos ht]
            · have h6 : q = 1 := by omega
              rw [if_neg h5, q_302_140, if_neg (by decide), if_pos hq3, if_pos hp, if_pos hq3, if_pos hp, if_pos hq3, if_pos hq3, Int.toNat_natCast, w32e (x := (c : Int) + 1) (by first | decide | omega) (by first | decide | omega), e1, if_neg (show ¬ S.2 111 c = 0 by omega)]
              by_cases h7 : S.2 111 c < S.2 146 p.toNat
              · rw [if_pos h7]
                refine nx _ ?_
                unfold fT
                rw [if_neg h5, if_pos h6, if_pos ht, if_pos h7]
              · rw [if_neg h7]
                refine nx _ ?_
                unfold fT
                rw [if_neg h5, if_pos h6, if_pos ht, if_neg h7]
    · rw [if_pos h1]
      refine n0 ?_
      have ht : tst S.2 c p = false := by
        unfold tst
        simp [h1]
      unfold fT
      rw [if_neg h1, ht]
      simp
theorem x_fnd0 (gk : GK S) (p : Int) : ∀ (m c : Nat), c + m = nClaims S.2 → LQ (WK L xs) (ev (WK L xs) (d + 3)) 87 5 [some (vr 43), some (vi p), some (vl (w64 (sm (fT S.2 p 0) c))), none, some (vi (c : Int)), none] [] S = some (w64 (sm (fT S.2 p 0) (nClaims S.2)), S) := by
  obtain ⟨hn, hn3⟩ := nC gk
  intro m
  induction m with
  | zero =>
    intro c hc
    have e : c = nClaims S.2 := by omega
    rw [q_87_5, gk.2.1, hn, if_neg (by first | decide | omega), e]
  | succ m ih =>
    intro c hc
    have hcl : (c : Int) < S.2 72 52 := by omega
    have ho := gk.ob hcl
    have h5 := ho.1
    have e1 : (c : Int) + 1 = ((c + 1 : Nat) : Int) := by omega
    have hi := ih (c + 1) (by first | decide | omega)
    have hs := sm_su (fT S.2 p 0) c
    have hv : fT S.2 p 0 c = if tst S.2 c p = true then S.2 122 c else 0 := rfl
    rw [q_87_5, gk.2.1, if_pos hcl, x_cl gk hcl, bR, Int.toNat_natCast, if_neg (by first | decide | omega), g14 ho, k12a ho, x_tst gk hcl, bR, w32e (x := (c : Int) + 1) (by first | decide | omega) (by first | decide | omega), e1, k12 ho, rdvD h5, (gk.2.2.2.2.1 c hcl).2.2.2.2.2.2.2.2.2.2.2.2.2.2.1, w64_al]
    simp only [bi_0]
    by_cases h1 : tst S.2 c p = true
    · have h2 : S.2 121 c = 1 := by
        unfold tst at h1
        simp only [decide_eq_true_eq] at h1
        exact h1.2.2
      rw [if_pos h1] at hv
      rw [if_neg (fun z => z h1), if_pos h2, ← hv, ← hs]
      exact hi
    · rw [if_neg h1] at hv
      rw [if_pos h1]
      rw [hs, hv, Int.add_zero] at hi
      exact hi
theorem x_fnd2 (gk : GK S) (p : Int) : ∀ (m c : Nat), c + m = nClaims S.2 → LQ (WK L xs) (ev (WK L xs) (d + 3)) 89 5 [some (vr 43), some (vi p), some (vl (w64 (sm (fT S.2 p 2) c))), none, some (vi (c : Int)), none] [] S = some (w64 (sm (fT S.2 p 2) (nClaims S.2)), S) := by
  obtain ⟨hn, hn3⟩ := nC gk
  intro m
  induction m with
  | zero =>
    intro c hc
    have e : c = nClaims S.2 := by omega
    rw [q_89_5, gk.2.1, hn, if_neg (by first | decide | omega), e]
  | succ m ih =>
    intro c hc
    have hcl : (c : Int) < S.2 72 52 := by omega
    have ho := gk.ob hcl
    have h5 := ho.1
    have e1 : (c : Int) + 1 = ((c + 1 : Nat) : Int) := by omega
    have hi := ih (c + 1) (by first | decide | omega)
    have hs := sm_su (fT S.2 p 2) c
    have hv : fT S.2 p 2 c = if pin S.2 c p = true then (if tst S.2 c p = true then S.2 122 c else S.2 111 c) else 0 := rfl
    rw [q_89_5, gk.2.1, if_pos hcl, x_cl gk hcl, bR, Int.toNat_natCast, if_neg (by first | decide | omega), g14 ho, k12a ho, x_pin gk hcl, bR, w32e (x := (c : Int) + 1) (by first | decide | omega) (by first | decide | omega), e1, k12b ho, x_tst gk hcl, bR, k12 ho, rdvD h5, rdvD h5, (gk.2.2.2.2.1 c hcl).2.2.2.2.2.2.2.2.2.2.2.2.2.2.1, (gk.2.2.2.2.1 c hcl).2.2.2.2.1, w64_al, w64_al, k12 ho]
    simp only [bi_0]
    by_cases h0 : pin S.2 c p = true
    · rw [if_pos h0] at hv
      rw [if_neg (fun z => z h0)]
      by_cases h1 : tst S.2 c p = true
      · have h2 : S.2 121 c = 1 := by
          unfold tst at h1
          simp only [decide_eq_true_eq] at h1
          exact h1.2.2
        rw [if_pos h1] at hv
        rw [if_neg (fun z => z h1), if_pos h2, ← hv, ← hs]
        exact hi
      · rw [if_neg h1] at hv
        rw [if_pos h1, ← hv, ← hs]
        exact hi
    · rw [if_neg h0] at hv
      rw [if_pos h0]
      rw [hs, hv, Int.add_zero] at hi
      exact hi
theorem x_fnd1 (gk : GK S) {p : Int} (hp : 0 ≤ p ∧ p < 10) : ∀ (m c : Nat), c + m = nClaims S.2 → LQ (WK L xs) (ev (WK L xs) (d + 3)) 88 25 [some (vr 43), some (vi p), some (vl (S.2 146 p.toNat)), none, some (vl (w64 (sm (fT S.2 p 1) c))), none, some (vi (c : Int)), none, none] [] S = some (w64 (sm (fT S.2 p 1) (nClaims S.2)), S) := by
  obtain ⟨hn, hn3⟩ := nC gk
  intro m
  induction m with
  | zero =>
    intro c hc
    have e : c = nClaims S.2 := by omega
    rw [q_88_25, gk.2.1, hn, if_neg (by first | decide | omega), e]
  | succ m ih =>
    intro c hc
    have hcl : (c : Int) < S.2 72 52 := by omega
    have ho := gk.ob hcl
    have h5 := ho.1
    obtain ⟨r1, r2, r3, r4, r5, r6, r7, r8, r9, r10, r11, r12, r13⟩ := gk.1.2.2.2.1 c hcl
    have e1 : (c : Int) + 1 = ((c + 1 : Nat) : Int) := by omega
    have hi := ih (c + 1) (by first | decide | omega)
    have hs := sm_su (fT S.2 p 1) c
    have hv : fT S.2 p 1 c = (if tst S.2 c p = true then (if S.2 111 c < S.2 146 p.toNat then ldiv (w64 (S.2 122 c * S.2 146 p.toNat)) (S.2 111 c) else S.2 122 c) else 0) := rfl
    rw [q_88_25, gk.2.1, if_pos hcl, x_cl gk hcl, bR, Int.toNat_natCast, if_neg (by first | decide | omega), g14 ho, k12a ho, x_tst gk hcl, bR, w32e (x := (c : Int) + 1) (by first | decide | omega) (by first | decide | omega), e1, k12 ho, rdvD h5, (gk.2.2.2.2.1 c hcl).2.2.2.2.1, k12 ho]
    simp only [bi_0, lc_lt]
    by_cases h1 : tst S.2 c p = true
    · have h2 : S.2 121 c = 1 := by
        unfold tst at h1
        simp only [decide_eq_true_eq] at h1
        exact h1.2.2
      rw [if_pos h1] at hv
      rw [if_neg (fun z => z h1), if_neg (show ¬ S.2 111 c < 1 by omega), q_88_84, q_88_84, if_pos (show (0 : Int) = 0 from rfl), if_neg (show ¬ (1 : Int) = 0 by decide), k12 ho, k12 ho, rdvD h5, rdvD h5, (gk.2.2.2.2.1 c hcl).2.2.2.2.1, (gk.2.2.2.2.1 c hcl).2.2.2.2.2.2.2.2.2.2.2.2.2.2.1, if_pos h2, if_neg (show ¬ S.2 111 c = 0 by omega), k12 ho, w32e (x := (c : Int) + 1) (by first | decide | omega) (by first | decide | omega), e1, w64_al, w64_al]
      by_cases h3 : S.2 111 c < S.2 146 p.toNat
      · rw [if_pos h3] at hv
        rw [if_pos h3, ← hv, ← hs]
        exact hi
      · rw [if_neg h3] at hv
        rw [if_neg h3, ← hv, ← hs]
        exact hi
    · rw [if_neg h1] at hv
      rw [if_pos h1]
      rw [hs, hv, Int.add_zero] at hi
      exact hi
theorem o_found (H : Inv S) (p q : Int) : Ok L xs 54 302 [vi p, vi q] S := by
  have gk := H.gk
  by_cases hp : (0 ≤ p ∧ p < 10) ∧ (0 ≤ q ∧ q ≤ 2)
  · refine Ok.same (r := w64 (sm (fT S.2 p q) (nClaims S.2))) H ?_ ?_
    · rw [q_54, x_isYear, bR]
      simp only [bi_0]
      rw [if_neg (fun z => z hp.1)]
      by_cases h0 : q = 0
      · subst h0
        rw [if_pos rfl, q_87]
        exact (congrArg (bindR · _) (x_fnd0 (L := L) (xs := xs) (d := 195) gk p (nClaims S.2) 0 (by first | decide | omega))).trans rfl
      · rw [if_neg h0]
        by_cases h1 : q = 1
        · subst h1
          rw [if_pos rfl, q_88, x_isYear, bR]
          simp only [bi_0]
          rw [if_neg (fun z => z hp.1), if_pos hp.1, (gk.2.2.2.2.2.2.2.2.2.1 p.toNat (by first | decide | omega)).1]
          exact (congrArg (bindR · _) (x_fnd1 (L := L) (xs := xs) (d := 195) gk hp.1 (nClaims S.2) 0 (by first | decide | omega))).trans rfl
        · have h2 : q = 2 := by omega
          subst h2
          rw [if_neg h1, if_pos rfl, q_89]
          exact (congrArg (bindR · _) (x_fnd2 (L := L) (xs := xs) (d := 195) gk p (nClaims S.2) 0 (by first | decide | omega))).trans rfl
    · rw [q_302, m_lies, bR]
      simp only [bi_0]
      rw [if_neg (by first | decide | omega), m_lies, bR]
      simp only [bi_0]
      rw [if_neg (by first | decide | omega)]
      exact m_fnd (d := 198) gk hp.1 hp.2 (nClaims S.2) 0 (by first | decide | omega)
  · refine Ok.same (r := -1) H ?_ ?_
    · rw [q_54, x_isYear, bR]
      simp only [bi_0]
      by_cases h1 : 0 ≤ p ∧ p < 10
      · rw [if_neg (fun z => z h1), if_neg (by first | decide | omega), if_neg (by first | decide | omega), if_neg (by first | decide | omega)]
      · rw [if_pos h1]
    · rw [q_302, m_lies, bR]
      simp only [bi_0]
      by_cases h1 : 0 ≤ p ∧ p < 10
      · rw [if_neg (by first | decide | omega), m_lies, bR]
        simp only [bi_0]
        rw [if_pos (by first | decide | omega)]
      · rw [if_pos (by first | decide | omega)]
end
