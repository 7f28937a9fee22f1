/-! paid -/
theorem w64_sr_add (a b c : Int) : w64 (a + (b - w64 c)) = w64 (a + (b - c)) := by
  rw [← Int.add_sub_assoc, w64_sr, Int.add_sub_assoc]
/-- the claim c counts as paid in y under hd till day -/
noncomputable def cnt (h : Nat → Nat → Int) (y hd day : Int) (c : Nat) : Bool := decide (pin h c y = true ∧ h 115 c ≤ day ∧ uN h (h 109 c) hd = true)
noncomputable def wng (h : Nat → Nat → Int) (day : Int) (k c : Nat) : Int := sm (fun f => if h 147 f = c ∧ h 149 f ≤ day then h 148 f else 0) k
theorem wng_swap {h : Nat → Nat → Int} {day : Int} {P : Nat → Bool} {n : Nat} : ∀ k : Nat, (∀ f, f < k → 0 ≤ h 147 f ∧ h 147 f < n) → sm (fun c => if P c = true then h 111 c - wng h day k c else 0) n = sm (fun c => if P c = true then h 111 c else 0) n - sm (fun f => if h 149 f ≤ day ∧ P (h 147 f).toNat = true then h 148 f else 0) k := by
  intro k
  induction k with
  | zero =>
    intro _
    have e : sm (fun f => if h 149 f ≤ day ∧ P (h 147 f).toNat = true then h 148 f else 0) 0 = 0 := rfl
    rw [e, Int.sub_zero]
    refine sm_congr (fun c _ => ?_)
    have e2 : wng h day 0 c = 0 := rfl
    rw [e2, Int.sub_zero]
  | succ k ih =>
    intro hf
    have hi := ih (fun f hfk => hf f (by first | decide | omega))
    obtain ⟨z1, z2⟩ := hf k (by first | decide | omega)
    obtain ⟨c0, hc0⟩ := Int.eq_ofNat_of_zero_le z1
    have hw : ∀ c, wng h day (k + 1) c = wng h day k c + if h 147 k = c ∧ h 149 k ≤ day then h 148 k else 0 := fun c => rfl
    have h1 := sm_one (f := fun c => if P c = true then h 111 c - wng h day k c else 0) (g := fun c => if P c = true then h 111 c - wng h day (k + 1) c else 0) (c := c0) (n := n) (by first | decide | omega) (fun c _ hne => by
      show (if P c = true then h 111 c - wng h day (k + 1) c else 0) = _
      rw [hw c, if_neg (show ¬ (h 147 k = (c : Int) ∧ h 149 k ≤ day) by omega), Int.add_zero])
    rw [h1, hi, sm_su (fun f => if h 149 f ≤ day ∧ P (h 147 f).toNat = true then h 148 f else 0) k, hc0, Int.toNat_natCast]
    show _ - _ - (if P c0 = true then h 111 c0 - wng h day k c0 else 0) + (if P c0 = true then h 111 c0 - wng h day (k + 1) c0 else 0) = _
    rw [hw c0, hc0]
    by_cases q1 : P c0 = true
    · rw [if_pos q1, if_pos q1]
      by_cases q2 : h 149 k ≤ day
      · rw [if_pos ⟨rfl, q2⟩, if_pos ⟨q2, q1⟩]
        omega
      · rw [if_neg (fun z => q2 z.2), if_neg (fun z => q2 z.1)]
        omega
    · rw [if_neg q1, if_neg q1, if_neg (fun z => q1 z.2)]
      omega
section
variable {L : Nat} {xs : Nat → Int} {d : Nat} {S S' : AH} {o : Nat}
theorem m_counts (H : Inv S) {c : Nat} (hc : (c : Int) < S.2 72 52) {y hd day : Int} (hh : 0 ≤ hd) : ev (WK L xs) (d + 2) 310 [vr 72, vi (c : Int), vi y, vi hd, vi day] S = some (bi (cnt S.2 y hd day c = true), S) := by
  have hn := H.gk.n
  have hr := (H.gk.1.2.2.2.1 c hc).2.1
  have hq : (0 : Int) ≤ (c : Int) ∧ (c : Int) < 300 := by omega
  rw [q_310, m_paidIn (by first | decide | omega), bR, if_pos hq, if_pos hq, Int.toNat_natCast, m_isUnder H.gp.1 _ _ hr.1 hr.2 hh, bR]
  simp only [bi_0]
  unfold cnt
  by_cases h1 : pin S.2 c y = true
  · rw [if_neg (fun z => z h1)]
    by_cases h2 : day < S.2 115 c
    · rw [if_pos h2, bi_F (by simp; intro _; omega)]
    · rw [if_neg h2, ite_bin]
      congr 2
      apply bi_iff
      simp [h1]
      omega
  · rw [if_pos h1, bi_F (by simp [h1])]
theorem x_wrong (gk : GK S) (c : Nat) (day : Int) : ev (WK L xs) (d + 1) 91 [vr 43, vi (c : Int), vi day] S = some (w64 (wng S.2 day (S.2 72 102).toNat c), S) := by
  have hf := gk.1.2.2.1
  have key : ∀ (m f : Nat), f + m = (S.2 72 102).toNat → LQ (WK L xs) (ev (WK L xs) d) 91 5 [some (vr 43), some (vi (c : Int)), some (vi day), some (vl (w64 (wng S.2 day f c))), none, some (vi (f : Int))] [] S = some (w64 (wng S.2 day (S.2 72 102).toNat c), S) := by
    intro m
    induction m with
    | zero =>
      intro f hfm
      rw [q_91_5, gk.2.2.2.1, if_neg (by first | decide | omega), show f = (S.2 72 102).toNat by omega]
    | succ m ih =>
      intro f hfm
      obtain ⟨g1, g2, g3⟩ := gk.2.2.2.2.2.2.2.2.2.2 f (by first | decide | omega)
      have e1 : (f : Int) + 1 = ((f + 1 : Nat) : Int) := by omega
      have hi := ih (f + 1) (by first | decide | omega)
      have hw : wng S.2 day (f + 1) c = wng S.2 day f c + if S.2 147 f = c ∧ S.2 149 f ≤ day then S.2 148 f else 0 := rfl
      have hq : (0 : Int) ≤ (f : Int) ∧ (f : Int) < 100 := by omega
      rw [q_91_5, gk.2.2.2.1, if_pos (by first | decide | omega), if_pos hq, if_pos hq, if_pos hq, Int.toNat_natCast, g1, g2, g3, w32e (by first | decide | omega) (by first | decide | omega), e1, w64_al]
      by_cases h1 : S.2 147 f = c
      · rw [if_pos h1]
        by_cases h2 : day < S.2 149 f
        · rw [if_neg (by first | decide | omega), Int.add_zero] at hw
          rw [if_pos h2, ← hw]
          exact hi
        · rw [if_pos ⟨h1, by omega⟩] at hw
          rw [if_neg h2, ← hw]
          exact hi
      · rw [if_neg (fun z => h1 z.1), Int.add_zero] at hw
        rw [if_neg h1, ← hw]
        exact hi
  rw [q_91]
  exact key (S.2 72 102).toNat 0 (by first | decide | omega)
theorem o_paid (H : Inv S) (p q r : Int) : Ok L xs 61 309 [vi p, vi q, vi r] S := by
  have gk := H.gk
  have gp := H.gp
  obtain ⟨hn, hn3⟩ := nC gk
  have hfr := gk.1.2.2.1
  by_cases hc : (0 ≤ p ∧ p < 10) ∧ (0 ≤ q ∧ q < S.2 72 4) ∧ (0 ≤ r ∧ r < 3600)
  · obtain ⟨h1, h2, h3⟩ := hc
    have hsw := wng_swap (h := S.2) (day := r) (P := cnt S.2 p q r) (n := nClaims S.2) (S.2 72 102).toNat (fun f hf => by
      have := (gk.1.2.2.2.2.2 f (by first | decide | omega)).1
      omega)
    have kx : ∀ (m c : Nat), c + m = nClaims S.2 → LQ (WK L xs) (ev (WK L xs) 199) 61 35 [some (vr 15), some (vi p), some (vi q), some (vi r), some (vl (w64 (sm (fun c => if cnt S.2 p q r c = true then S.2 111 c - wng S.2 r (S.2 72 102).toNat c else 0) c))), none, some (vi (c : Int)), none] [] S = some (w64 (sm (fun c => if cnt S.2 p q r c = true then S.2 111 c - wng S.2 r (S.2 72 102).toNat c else 0) (nClaims S.2)), S) := by
      intro m
      induction m with
      | zero =>
        intro c hcm
        rw [q_61_35, gk.2.1, hn, if_neg (by first | decide | omega), show c = nClaims S.2 by omega]
      | succ m ih =>
        intro c hcm
        have hcl : (c : Int) < S.2 72 52 := by omega
        have ho := gk.ob hcl
        have h5 := ho.1
        obtain ⟨a1, a2, a3, a4, a5, a6, a7, a8, a9, -⟩ := gk.2.2.2.2.1 c hcl
        have hr := (gk.1.2.2.2.1 c hcl).2.1
        have e1 : (c : Int) + 1 = ((c + 1 : Nat) : Int) := by omega
        have hi := ih (c + 1) (by first | decide | omega)
        have hs := sm_su (fun c => if cnt S.2 p q r c = true then S.2 111 c - wng S.2 r (S.2 72 102).toNat c else 0) c
        rw [q_61_35, gk.2.1, if_pos hcl, x_cl gk hcl, bR, Int.toNat_natCast, if_neg (by first | decide | omega), g14 ho, k12a ho, x_pin gk hcl, bR, k12 ho, rdvD h5, a9, k12 ho, rdvD h5, a3, x_isUnder gp, bR, k12 ho, x_wrong gk, bR, rdvD h5, a5, w64_ar, w64_al, w64_sr_add, w32e (by first | decide | omega) (by first | decide | omega), e1]
        simp only [bi_0]
        by_cases q1 : cnt S.2 p q r c = true
        · have q2 := q1
          unfold cnt at q2
          simp only [decide_eq_true_eq] at q2
          rw [if_pos q1] at hs
          rw [if_neg (fun z => z q2.1), if_neg (by first | decide | omega), if_neg (fun z => z ⟨hr, h2, q2.2.2⟩), ← hs]
          exact hi
        · rw [if_neg q1, Int.add_zero] at hs
          rw [hs] at hi
          rw [hi]
          have q2 := q1
          unfold cnt at q2
          simp only [decide_eq_true_eq] at q2
          by_cases z1 : pin S.2 c p = true
          · rw [if_neg (fun z => z z1)]
            by_cases z2 : r < S.2 115 c
            · rw [if_pos z2]
            · rw [if_neg z2, if_pos (fun z => q2 ⟨z1, by omega, z.2.2⟩)]
          · rw [if_pos z1]
    have km2 : ∀ (m f : Nat) (A : Int), f + m = (S.2 72 102).toNat → LQ (WK L xs) (ev (WK L xs) 199) 309 89 [some (vr 72), some (vi p), some (vi q), some (vi r), some (vl (w64 (A - sm (fun f => if S.2 149 f ≤ r ∧ cnt S.2 p q r (S.2 147 f).toNat = true then S.2 148 f else 0) f))), none, some (vi (f : Int))] [] S = some (w64 (A - sm (fun f => if S.2 149 f ≤ r ∧ cnt S.2 p q r (S.2 147 f).toNat = true then S.2 148 f else 0) (S.2 72 102).toNat), S) := by
      intro m
      induction m with
      | zero =>
        intro f A hfm
        rw [q_309_89, if_neg (by first | decide | omega), show f = (S.2 72 102).toNat by omega]
      | succ m ih =>
        intro f A hfm
        have e1 : (f : Int) + 1 = ((f + 1 : Nat) : Int) := by omega
        have hi := ih (f + 1) A (by first | decide | omega)
        have hs := sm_su (fun f => if S.2 149 f ≤ r ∧ cnt S.2 p q r (S.2 147 f).toNat = true then S.2 148 f else 0) f
        have hq : (0 : Int) ≤ (f : Int) ∧ (f : Int) < 100 := by omega
        obtain ⟨⟨u1, u2, u3⟩, -⟩ := gk.1.2.2.2.2.2 f (by first | decide | omega)
        obtain ⟨c0, hc0⟩ := Int.eq_ofNat_of_zero_le u1
        have hcn := m_counts (L := L) (xs := xs) (d := 197) H (c := c0) (by first | decide | omega) (y := p) (hd := q) (day := r) h2.1
        rw [q_309_89, if_pos (by first | decide | omega), if_pos hq, if_pos hq, Int.toNat_natCast, hc0, hcn, bR, if_pos hq, w32e (by first | decide | omega) (by first | decide | omega), e1, w64_sl, w64_sl]
        simp only [bi_0]
        rw [hc0, Int.toNat_natCast] at hs
        rw [hs] at hi
        by_cases z1 : r < S.2 149 f
        · rw [if_neg (fun z => by omega), Int.add_zero] at hi
          rw [if_pos z1, Int.sub_zero]
          exact hi
        · rw [if_neg z1]
          by_cases z2 : cnt S.2 p q r c0 = true
          · rw [if_pos ⟨by omega, z2⟩, ← Int.sub_sub] at hi
            rw [if_neg (fun z => z z2)]
            exact hi
          · rw [if_neg (fun z => z2 z.2), Int.add_zero] at hi
            rw [if_pos z2, Int.sub_zero]
            exact hi
    have km : ∀ (m c : Nat), c + m = nClaims S.2 → LQ (WK L xs) (ev (WK L xs) 199) 309 42 [some (vr 72), some (vi p), some (vi q), some (vi r), some (vl (w64 (sm (fun c => if cnt S.2 p q r c = true then S.2 111 c else 0) c))), none, some (vi (c : Int))] [] S = LQ (WK L xs) (ev (WK L xs) 199) 309 89 [some (vr 72), some (vi p), some (vi q), some (vi r), some (vl (w64 (sm (fun c => if cnt S.2 p q r c = true then S.2 111 c else 0) (nClaims S.2)))), none, some (vi 0)] [] S := by
      intro m
      induction m with
      | zero =>
        intro c hcm
        rw [q_309_42, hn, if_neg (by first | decide | omega), show c = nClaims S.2 by omega]
      | succ m ih =>
        intro c hcm
        have hcl : (c : Int) < S.2 72 52 := by omega
        have e1 : (c : Int) + 1 = ((c + 1 : Nat) : Int) := by omega
        have hi := ih (c + 1) (by first | decide | omega)
        have hs := sm_su (fun c => if cnt S.2 p q r c = true then S.2 111 c else 0) c
        have hq : (0 : Int) ≤ (c : Int) ∧ (c : Int) < 300 := by omega
        rw [hs] at hi
        rw [q_309_42, if_pos hcl, m_counts H hcl h2.1, bR, if_pos hq, Int.toNat_natCast, w32e (by first | decide | omega) (by first | decide | omega), e1, w64_al, w64_al]
        simp only [bi_0]
        by_cases z2 : cnt S.2 p q r c = true
        · rw [if_pos z2] at hi
          rw [if_neg (fun z => z z2)]
          exact hi
        · rw [if_neg z2] at hi
          rw [if_pos z2]
          exact hi
    refine Ok.same (r := w64 (sm (fun c => if cnt S.2 p q r c = true then S.2 111 c - wng S.2 r (S.2 72 102).toNat c else 0) (nClaims S.2))) H ?_ ?_
    · rw [q_61]
      simp only [x_isYear, x_isHead, x_isDay, bR, bi_0, gp.2.1]
      rw [if_neg (fun z => z h1), if_neg (fun z => z h2), if_neg (fun z => z h3)]
      exact kx (nClaims S.2) 0 (by first | decide | omega)
    · rw [q_309]
      simp only [m_lies, m_isHead gp.1, bR, bi_0]
      rw [if_neg (by first | decide | omega), if_neg (fun z => z h2), if_neg (by first | decide | omega), hsw]
      have k0 := km (nClaims S.2) 0 (by first | decide | omega)
      have k2 := km2 (S.2 72 102).toNat 0 (sm (fun c => if cnt S.2 p q r c = true then S.2 111 c else 0) (nClaims S.2)) (by first | decide | omega)
      have hz : sm (fun f => if S.2 149 f ≤ r ∧ cnt S.2 p q r (S.2 147 f).toNat = true then S.2 148 f else 0) 0 = 0 := rfl
      rw [hz, Int.sub_zero] at k2
      exact k0.trans k2
  · refine Ok.same (r := -1) H ?_ ?_
    · rw [q_61]
      simp only [x_isYear, x_isHead, x_isDay, bR, bi_0, gp.2.1]
      by_cases h1 : 0 ≤ p ∧ p < 10
      · rw [if_neg (fun z => z h1)]
        by_cases h2 : 0 ≤ q ∧ q < S.2 72 4
        · rw [if_neg (fun z => z h2), if_pos (fun z => hc ⟨h1, h2, z⟩)]
        · rw [if_pos h2]
      · rw [if_pos h1]
    · rw [q_309]
      simp only [m_lies, m_isHead gp.1, bR, bi_0]
      by_cases h1 : 0 ≤ p ∧ p ≤ 9
      · rw [if_neg (fun z => z h1)]
        by_cases h2 : 0 ≤ q ∧ q < S.2 72 4
        · rw [if_neg (fun z => z h2), if_pos (fun z => hc ⟨by omega, h2, by omega⟩)]
        · rw [if_pos h2]
      · rw [if_pos h1]
end
