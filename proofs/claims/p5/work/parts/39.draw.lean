/-! draw -/
/-- the first mark at or behind what is ahead -/
noncomputable def mrk (first step ahead : Int) : Int := if first < ahead then first + (ahead - first + step - 1) / step * step else first
theorem mrk_ge {f s a : Int} (hs : 0 < s) : a ≤ mrk f s a ∧ f ≤ mrk f s a ∧ mrk f s a < (if f < a then a else f) + s := by
  unfold mrk
  by_cases h : f < a
  · rw [if_pos h, if_pos h]
    have h1 := Int.mul_ediv_add_emod (a - f + s - 1) s
    have h2 := Int.emod_nonneg (a - f + s - 1) (show s ≠ 0 by omega)
    have h3 := Int.emod_lt_of_pos (a - f + s - 1) hs
    rw [Int.mul_comm] at h1
    generalize (a - f + s - 1) / s * s = q at *
    omega
  · rw [if_neg h, if_neg h]
    omega
theorem mrk_keep {f s a b : Int} (hs : 0 < s) (hab : a ≤ b) (h : b ≤ mrk f s a) : mrk f s b = mrk f s a := by
  unfold mrk at h ⊢
  by_cases h1 : f < a
  · rw [if_pos h1] at h ⊢
    rw [if_pos (show f < b by omega)]
    have e : (b - f + s - 1) / s = (a - f + s - 1) / s := by
      apply Int.le_antisymm
      · have : (b - f + s - 1) / s < (a - f + s - 1) / s + 1 := by
          apply Int.ediv_lt_of_lt_mul hs
          rw [Int.add_mul, Int.one_mul]
          omega
        omega
      · exact Int.ediv_le_ediv hs (by first | decide | omega)
    rw [e]
  · rw [if_neg h1] at h ⊢
    rw [if_neg (by first | decide | omega)]
theorem mrk_next {f s a b : Int} (hs : 0 < s) (h : mrk f s a < b) : mrk f s b = mrk f s a + (b - mrk f s a + s - 1) / s * s := by
  have hf : f < b := by
    have := (mrk_ge (f := f) (a := a) hs).2.1
    omega
  have : ∃ j, mrk f s a = f + j * s := by
    unfold mrk
    by_cases h1 : f < a
    · rw [if_pos h1]
      exact ⟨_, rfl⟩
    · rw [if_neg h1]
      exact ⟨0, by omega⟩
  obtain ⟨j, hj⟩ := this
  rw [hj]
  show (if f < b then f + (b - f + s - 1) / s * s else f) = _
  rw [if_pos hf]
  have e : (b - f + s - 1) / s = (b - (f + j * s) + s - 1) / s + j := by
    rw [← Int.add_mul_ediv_right _ _ (show s ≠ 0 by omega)]
    congr 1
    omega
  rw [e, Int.add_mul]
  omega
theorem ldiv_e {a b : Int} (h : 0 ≤ a ∧ a ≤ 1000000000000000000) (hb : 0 < b) : ldiv a b = a / b ∧ 0 ≤ a / b ∧ a / b ≤ a := by
  have h3 : 0 ≤ a / b := Int.ediv_nonneg h.1 (by first | decide | omega)
  have h4 : a / b ≤ a := Int.ediv_le_self _ h.1
  unfold ldiv
  rw [Int.tdiv_eq_ediv_of_nonneg h.1, w64e (by first | decide | omega) (by first | decide | omega)]
  exact ⟨rfl, h3, h4⟩
theorem up_bd {a s : Int} (ha : 0 ≤ a ∧ a ≤ 100000000000000) (hs : 0 < s ∧ s ≤ 1000000000) : w64 (ldiv (a + s - 1) s * s) = (a + s - 1) / s * s ∧ 0 ≤ (a + s - 1) / s * s ∧ (a + s - 1) / s * s < a + s := by
  obtain ⟨e1, e2, e3⟩ := ldiv_e (a := a + s - 1) (b := s) (by first | decide | omega) hs.1
  have h1 := Int.mul_ediv_add_emod (a + s - 1) s
  have h2 := Int.emod_nonneg (a + s - 1) (show s ≠ 0 by omega)
  have h3 := Int.emod_lt_of_pos (a + s - 1) hs.1
  have h5 : 0 ≤ (a + s - 1) / s * s := Int.mul_nonneg e2 (by first | decide | omega)
  rw [Int.mul_comm] at h1
  rw [e1]
  generalize (a + s - 1) / s * s = q at *
  rw [w64e (by first | decide | omega) (by first | decide | omega)]
  omega
/-- what was paid in y ahead of the claim c -/
noncomputable def ahd (h : Nat → Nat → Int) (y : Int) (c : Nat) : Int := sm (fun c => if pin h c y = true then h 111 c else 0) c
/-- is the claim drawn? -/
noncomputable def drw (h : Nat → Nat → Int) (y f s : Int) (c : Nat) : Int := if pin h c y = true then (if mrk f s (ahd h y c) < ahd h y c + h 111 c then 1 else 0) else h 120 c
noncomputable def drN (h : Nat → Nat → Int) (y f s : Int) (c : Nat) : Int := sm (fun c => if pin h c y = true ∧ drw h y f s c = 1 then 1 else 0) c
section
variable {L : Nat} {xs : Nat → Int} {d : Nat} {S S' : AH} {o : Nat}
theorem ahd_bd (gk : GK S) (y : Int) {c : Nat} (hc : c ≤ nClaims S.2) : 0 ≤ ahd S.2 y c ∧ ahd S.2 y c ≤ c * 1000000000 := by
  obtain ⟨hn, hn3⟩ := nC gk
  refine sm_bd (fun j hj => ?_)
  have := gk.1.2.2.2.1 j (by first | decide | omega)
  split <;> omega
theorem drN_bd {h : Nat → Nat → Int} (y f s : Int) (c : Nat) : 0 ≤ drN h y f s c ∧ drN h y f s c ≤ c * 1 := by
  refine sm_bd (fun j hj => ?_)
  split <;> omega
/-- the class's loop -/
noncomputable def DX (S : AH) (y f s : Int) (c : Nat) (T : AH) : Prop := T.1 = S.1 ∧ (∀ a, a < 151 → a ≠ 46 → T.2 a = S.2 a) ∧ (∀ j, T.2 46 j = if j = y.toNat then s else S.2 46 j) ∧ (∀ a, 151 ≤ a → (∀ e : Nat, (e : Int) < S.2 72 52 → a ≠ clA S e) → T.2 a = S.2 a) ∧ ∀ e : Nat, (e : Int) < S.2 72 52 → (∀ k, k ≠ 12 → T.2 (clA S e) k = S.2 (clA S e) k) ∧ T.2 (clA S e) 12 = if e < c then drw S.2 y f s e else S.2 120 e
theorem x_drl (gk : GK S) {y f s : Int} (hf : 0 ≤ f ∧ f < s) (hs : s ≤ 1000000000) : ∀ (m c : Nat) (T : AH), c + m = nClaims S.2 → DX S y f s c T → ∃ T', LQ (WK L xs) (ev (WK L xs) (d + 3)) 85 34 [some (vr 43), some (vi y), none, some (vi s), some (vl (mrk f s (ahd S.2 y c))), none, some (vl (ahd S.2 y c)), none, some (vi (drN S.2 y f s c)), some (vi (c : Int)), none, none, none] [] T = some (drN S.2 y f s (nClaims S.2), T') ∧ DX S y f s (nClaims S.2) T' := by
  obtain ⟨hn, hn3⟩ := nC gk
  intro m
  induction m with
  | zero =>
    intro c T hc hD
    have e : c = nClaims S.2 := by omega
    have t43 := hD.2.1 43 (by first | decide | omega) (by first | decide | omega)
    subst e
    rw [q_85_34, t43, gk.2.1, hn, if_neg (by first | decide | omega)]
    exact ⟨T, rfl, hD⟩
  | succ m ih =>
    intro c T hc hD
    have hcl : (c : Int) < S.2 72 52 := by omega
    have ho := gk.ob hcl
    have h5 := ho.1
    have hoT : isO T (clA S c) 12 15 := by
      unfold isO
      rw [hD.1]
      exact ho
    have t43 := hD.2.1 43 (by first | decide | omega) (by first | decide | omega)
    have t44 := hD.2.1 44 (by first | decide | omega) (by first | decide | omega)
    have hA := gk.2.2.2.2.1 c hcl
    have hr := (gk.1.2.2.2.1 c hcl).2.2.2.1
    obtain ⟨z1, z2⟩ := hD.2.2.2.2 c hcl
    have e1 : (c : Int) + 1 = ((c + 1 : Nat) : Int) := by omega
    have b1 := ahd_bd gk y (c := c) (by first | decide | omega)
    have b2 := drN_bd (h := S.2) y f s c
    have hmk := mrk_ge (f := f) (s := s) (a := ahd S.2 y c) (by first | decide | omega)
    have hmu : mrk f s (ahd S.2 y c) ≤ ahd S.2 y c + 2 * s := by
      have := hmk.2.2
      split at this <;> omega
    have hau : ahd S.2 y (c + 1) = ahd S.2 y c + if pin S.2 c y = true then S.2 111 c else 0 := rfl
    have hdu : drN S.2 y f s (c + 1) = drN S.2 y f s c + if pin S.2 c y = true ∧ drw S.2 y f s c = 1 then 1 else 0 := rfl
    have hcat : ev (WK L xs) (d + 3) 80 [vr 43, vi (c : Int)] T = some ((clA S c : Int), T) := by
      rw [q_80, t43, gk.2.1, if_neg (by first | decide | omega), if_pos hcl, if_pos (by first | decide | omega), Int.toNat_natCast, t44]
      rfl
    have hpn : ev (WK L xs) (d + 3) 75 [vr (clA S c), vi y] T = some (bi (pin S.2 c y = true), T) := by
      rw [x_paidIn hoT, z1 7 (by decide), hA.2.2.2.2.2.2.2.2.1]
      congr 2
      apply bi_iff
      unfold pin
      simp
    rw [q_85_34, t43, gk.2.1, if_pos hcl, hcat, bR, Int.toNat_natCast, if_neg (by first | decide | omega), g14 hoT, k12a hoT, hpn, bR, w32e (x := (c : Int) + 1) (by first | decide | omega) (by first | decide | omega), e1, k12 hoT, rdvD h5, z1 3 (by decide), hA.2.2.2.2.1, w64e (x := ahd S.2 y c + S.2 111 c) (by first | decide | omega) (by first | decide | omega)]
    simp only [bi_0, lc_lt]
    by_cases hp : pin S.2 c y = true
    · rw [if_pos hp] at hau
      rw [if_neg (fun z => z hp)]
      have hstep : ∀ b : Int, (b = 0 ∨ b = 1) → drw S.2 y f s c = b → DX S y f s (c + 1) (wr T (clA S c) 12 b) := by
        intro b hb hv
        refine ⟨hD.1, fun a q1 q2 => ?_, fun j => ?_, fun a q1 q2 => ?_, fun e he => ?_⟩
        · rw [wr_c (by first | decide | omega)]; exact hD.2.1 a q1 q2
        · rw [wr_c (by first | decide | omega)]; exact hD.2.2.1 j
        · rw [wr_c (q2 c hcl)]; exact hD.2.2.2.1 a q1 q2
        · by_cases hec : e = c
          · subst hec
            refine ⟨fun k hk => ?_, ?_⟩
            · rw [wr_f, if_neg hk]; exact z1 k hk
            · rw [wr_f, if_pos rfl, if_pos (by first | decide | omega), hv]
          · have hne : clA S e ≠ clA S c := fun z => hec (gk.2.2.2.2.2.1 e c he hcl z)
            rw [wr_c hne]
            refine ⟨(hD.2.2.2.2 e he).1, ?_⟩
            rw [(hD.2.2.2.2 e he).2]
            by_cases q : e < c
            · rw [if_pos q, if_pos (by first | decide | omega)]
            · rw [if_neg q, if_neg (by first | decide | omega)]
      have hoW : ∀ b : Int, isO (wr T (clA S c) 12 b) (clA S c) 12 15 := fun b => hoT
      by_cases hm : mrk f s (ahd S.2 y c) < ahd S.2 y c + S.2 111 c
      · have hv : drw S.2 y f s c = 1 := by
          unfold drw
          rw [if_pos hp, if_pos hm]
        rw [if_pos ⟨hp, hv⟩] at hdu
        have hnx := mrk_next (f := f) (s := s) (a := ahd S.2 y c) (b := ahd S.2 y c + S.2 111 c) (by first | decide | omega) hm
        obtain ⟨u1, u2, u3⟩ := up_bd (a := ahd S.2 y c + S.2 111 c - mrk f s (ahd S.2 y c)) (s := s) (by first | decide | omega) (by first | decide | omega)
        rw [if_pos hm, q_85_94, k12w hoT, if_pos (Or.inr rfl), k12 (hoW 1), rdvD h5, wr_f, if_pos rfl, if_neg (by decide), if_neg (by first | decide | omega), w32e (x := (c : Int) + 1) (by first | decide | omega) (by first | decide | omega), e1, w32e (by first | decide | omega) (by first | decide | omega), w64e (x := ahd S.2 y c + S.2 111 c - mrk f s (ahd S.2 y c)) (by first | decide | omega) (by first | decide | omega), w64e (x := ahd S.2 y c + S.2 111 c - mrk f s (ahd S.2 y c) + s) (by first | decide | omega) (by first | decide | omega), w64e (x := ahd S.2 y c + S.2 111 c - mrk f s (ahd S.2 y c) + s - 1) (by first | decide | omega) (by first | decide | omega), u1, w64e (by first | decide | omega) (by first | decide | omega), ← hnx, ← hau, ← hdu]
        exact ih (c + 1) _ (by first | decide | omega) (hstep 1 (Or.inr rfl) hv)
      · have hv : drw S.2 y f s c = 0 := by
          unfold drw
          rw [if_pos hp, if_neg hm]
        rw [if_neg (fun z => by rw [hv] at z; exact absurd z.2 (by decide)), Int.add_zero] at hdu
        have hnx := mrk_keep (f := f) (s := s) (a := ahd S.2 y c) (b := ahd S.2 y c + S.2 111 c) (by first | decide | omega) (by first | decide | omega) (by first | decide | omega)
        rw [if_neg hm, q_85_94, k12w hoT, if_pos (Or.inl rfl), k12 (hoW 0), rdvD h5, wr_f, if_pos rfl, if_pos rfl, w32e (x := (c : Int) + 1) (by first | decide | omega) (by first | decide | omega), e1, ← hnx, ← hau, ← hdu]
        exact ih (c + 1) _ (by first | decide | omega) (hstep 0 (Or.inl rfl) hv)
    · rw [if_neg hp, Int.add_zero] at hau
      rw [if_neg (fun z => hp z.1), Int.add_zero] at hdu
      rw [if_pos hp, ← hau, ← hdu]
      refine ih (c + 1) T (by first | decide | omega) ⟨hD.1, hD.2.1, hD.2.2.1, hD.2.2.2.1, fun e he => ⟨(hD.2.2.2.2 e he).1, ?_⟩⟩
      rw [(hD.2.2.2.2 e he).2]
      by_cases hec : e = c
      · subst hec
        rw [if_neg (by first | decide | omega), if_pos (by first | decide | omega)]
        unfold drw
        rw [if_neg hp]
      · by_cases q : e < c
        · rw [if_pos q, if_pos (by first | decide | omega)]
        · rw [if_neg q, if_neg (by first | decide | omega)]
/-- the reference's loop; h0 is where it starts from -/
noncomputable def DM (S U : AH) (y f s : Int) (c : Nat) (T : AH) : Prop := T.1 = U.1 ∧ (∀ a, a ≠ 120 → T.2 a = U.2 a) ∧ ∀ e : Nat, T.2 120 e = if e < c then drw S.2 y f s e else S.2 120 e
theorem m_drl (gk : GK S) {U : AH} (hU : ∀ a, a < 151 → a ≠ 46 → a ≠ 146 → U.2 a = S.2 a) {y f s : Int} (hf : 0 ≤ f ∧ f < s) (hs : s ≤ 1000000000) : ∀ (m c : Nat) (T : AH), c + m = nClaims S.2 → DM S U y f s c T → ∃ T', LQ (WK L xs) (ev (WK L xs) (d + 1)) 299 55 [some (vr 72), some (vi y), some (vi f), some (vi s), some (vl (ahd S.2 y c)), none, some (vi (drN S.2 y f s c)), some (vi (c : Int)), none, none] [] T = some (drN S.2 y f s (nClaims S.2), T') ∧ DM S U y f s (nClaims S.2) T' := by
  obtain ⟨hn, hn3⟩ := nC gk
  intro m
  induction m with
  | zero =>
    intro c T hc hD
    have e : c = nClaims S.2 := by omega
    have t72 := (hD.2.1 72 (by first | decide | omega)).trans (hU 72 (by first | decide | omega) (by first | decide | omega) (by first | decide | omega))
    subst e
    rw [q_299_55, t72, hn, if_neg (by first | decide | omega)]
    exact ⟨T, rfl, hD⟩
  | succ m ih =>
    intro c T hc hD
    have hcl : (c : Int) < S.2 72 52 := by omega
    have t72 := (hD.2.1 72 (by first | decide | omega)).trans (hU 72 (by first | decide | omega) (by first | decide | omega) (by first | decide | omega))
    have t111 := (hD.2.1 111 (by first | decide | omega)).trans (hU 111 (by first | decide | omega) (by first | decide | omega) (by first | decide | omega))
    have t115 := (hD.2.1 115 (by first | decide | omega)).trans (hU 115 (by first | decide | omega) (by first | decide | omega) (by first | decide | omega))
    have hr := (gk.1.2.2.2.1 c hcl).2.2.2.1
    have e1 : (c : Int) + 1 = ((c + 1 : Nat) : Int) := by omega
    have hq : (0 : Int) ≤ (c : Int) ∧ (c : Int) < 300 := by omega
    have b1 := ahd_bd gk y (c := c) (by first | decide | omega)
    have b2 := drN_bd (h := S.2) y f s c
    have hau : ahd S.2 y (c + 1) = ahd S.2 y c + if pin S.2 c y = true then S.2 111 c else 0 := rfl
    have hdu : drN S.2 y f s (c + 1) = drN S.2 y f s c + if pin S.2 c y = true ∧ drw S.2 y f s c = 1 then 1 else 0 := rfl
    rw [q_299_55, t72, hn, if_pos (by first | decide | omega), m_paidIn (by first | decide | omega), bR, pin_fr t115, w32e (x := (c : Int) + 1) (by first | decide | omega) (by first | decide | omega), e1, if_neg (show ¬ s = 0 by omega)]
    simp only [bi_0, lc_gt]
    by_cases hp : pin S.2 c y = true
    · rw [if_pos hp] at hau
      rw [if_neg (fun z => z hp)]
      have h109 : LQ (WK L xs) (ev (WK L xs) (d + 1)) 299 109 [some (vr 72), some (vi y), some (vi f), some (vi s), some (vl (ahd S.2 y c)), none, some (vi (drN S.2 y f s c)), some (vi (c : Int)), none, none] [vl (mrk f s (ahd S.2 y c))] T = LQ (WK L xs) (ev (WK L xs) (d + 1)) 299 55 [some (vr 72), some (vi y), some (vi f), some (vi s), some (vl (ahd S.2 y (c + 1))), none, some (vi (drN S.2 y f s (c + 1))), some (vi ((c + 1 : Nat) : Int)), none, none] [] (wr T 120 c (drw S.2 y f s c)) := by
        rw [q_299_109, if_pos hq, Int.toNat_natCast, t111, w64e (x := ahd S.2 y c + S.2 111 c) (by first | decide | omega) (by first | decide | omega)]
        simp only [lc_lt]
        by_cases hm : mrk f s (ahd S.2 y c) < ahd S.2 y c + S.2 111 c
        · have hv : drw S.2 y f s c = 1 := by
            unfold drw
            rw [if_pos hp, if_pos hm]
          rw [if_pos ⟨hp, hv⟩] at hdu
          rw [if_pos hm, q_299_139, if_pos hq, if_pos (Or.inr rfl), if_pos hq, Int.toNat_natCast, wr_f, if_pos rfl, if_neg (by decide), if_pos hq, t111, w64e (x := ahd S.2 y c + S.2 111 c) (by first | decide | omega) (by first | decide | omega), w32e (x := (c : Int) + 1) (by first | decide | omega) (by first | decide | omega), e1, w32e (by first | decide | omega) (by first | decide | omega), ← hau, ← hdu, hv]
        · have hv : drw S.2 y f s c = 0 := by
            unfold drw
            rw [if_pos hp, if_neg hm]
          rw [if_neg (fun z => by rw [hv] at z; exact absurd z.2 (by decide)), Int.add_zero] at hdu
          rw [if_neg hm, q_299_139, if_pos hq, if_pos (Or.inl rfl), if_pos hq, Int.toNat_natCast, wr_f, if_pos rfl, if_pos rfl, if_pos hq, t111, w64e (x := ahd S.2 y c + S.2 111 c) (by first | decide | omega) (by first | decide | omega), w32e (x := (c : Int) + 1) (by first | decide | omega) (by first | decide | omega), e1, Int.add_zero, w32e (by first | decide | omega) (by first | decide | omega), ← hau, hdu, hv]
      have hgo := ih (c + 1) (wr T 120 c (drw S.2 y f s c)) (by first | decide | omega) ⟨hD.1, fun a q => by rw [wr_c q]; exact hD.2.1 a q, fun e => by
        rw [wr_f, hD.2.2 e]
        by_cases hec : e = c
        · subst hec
          rw [if_pos rfl, if_pos (by first | decide | omega)]
        · rw [if_neg hec]
          by_cases q : e < c
          · rw [if_pos q, if_pos (by first | decide | omega)]
          · rw [if_neg q, if_neg (by first | decide | omega)]⟩
      by_cases hfa : f < ahd S.2 y c
      · obtain ⟨u1, u2, u3⟩ := up_bd (a := ahd S.2 y c - f) (s := s) (by first | decide | omega) (by first | decide | omega)
        have hmv : mrk f s (ahd S.2 y c) = f + (ahd S.2 y c - f + s - 1) / s * s := by
          unfold mrk
          rw [if_pos hfa]
        rw [if_pos hfa, w64e (x := ahd S.2 y c - f) (by first | decide | omega) (by first | decide | omega), w64e (x := ahd S.2 y c - f + s) (by first | decide | omega) (by first | decide | omega), w64e (x := ahd S.2 y c - f + s - 1) (by first | decide | omega) (by first | decide | omega), u1, w64e (by first | decide | omega) (by first | decide | omega), ← hmv, h109]
        exact hgo
      · have hmv : mrk f s (ahd S.2 y c) = f := by
          unfold mrk
          rw [if_neg hfa]
        rw [hmv] at h109
        rw [if_neg hfa, h109]
        exact hgo
    · rw [if_neg hp, Int.add_zero] at hau
      rw [if_neg (fun z => hp z.1), Int.add_zero] at hdu
      rw [if_pos hp, ← hau, ← hdu]
      refine ih (c + 1) T (by first | decide | omega) ⟨hD.1, hD.2.1, fun e => ?_⟩
      rw [hD.2.2 e]
      by_cases hec : e = c
      · subst hec
        rw [if_neg (by first | decide | omega), if_pos (by first | decide | omega)]
        unfold drw
        rw [if_neg hp]
      · by_cases q : e < c
        · rw [if_pos q, if_pos (by first | decide | omega)]
        · rw [if_neg q, if_neg (by first | decide | omega)]
theorem o_draw (H : Inv S) (p q r : Int) : Ok L xs 51 299 [vi p, vi q, vi r] S := by
  have gk := H.gk
  obtain ⟨hn, hn3⟩ := nC gk
  by_cases hc : (0 ≤ p ∧ p < 10) ∧ (0 ≤ q ∧ q < r) ∧ r ≤ 1000000000
  · obtain ⟨hp, hf, hs⟩ := hc
    have hm0 : mrk q r (ahd S.2 p 0) = q := by
      unfold mrk
      rw [if_neg (show ¬ q < ahd S.2 p 0 by show ¬ q < 0; omega)]
    have hx := x_drl (L := L) (xs := xs) (d := 195) gk (y := p) hf hs (nClaims S.2) 0 (wr S 46 p.toNat r) (by first | decide | omega) ⟨rfl, fun a q1 q2 => wr_c (by first | decide | omega), fun j => wr_f, fun a q1 q2 => wr_c (by first | decide | omega), fun e he => by
      have h5 := (gk.ob he).1
      rw [wr_c (by first | decide | omega), if_neg (by first | decide | omega)]
      exact ⟨fun _ _ => rfl, (gk.2.2.2.2.1 e he).2.2.2.2.2.2.2.2.2.2.2.2.2.1⟩⟩
    obtain ⟨T, x1, x2⟩ := hx
    have hm := m_drl (L := L) (xs := xs) (d := 198) gk (U := wr T 146 p.toNat r) (fun a q1 q2 q3 => by rw [wr_c (by first | decide | omega)]; exact x2.2.1 a q1 q2) (y := p) hf hs (nClaims S.2) 0 (wr T 146 p.toNat r) (by first | decide | omega) ⟨rfl, fun a _ => rfl, fun e => by rw [if_neg (by first | decide | omega), wr_c (by first | decide | omega), x2.2.1 120 (by first | decide | omega) (by first | decide | omega)]⟩
    obtain ⟨V, m1, m2⟩ := hm
    have hz : ahd S.2 p 0 = 0 := rfl
    have hd0 : drN S.2 p q r 0 = 0 := rfl
    have h0 : ((0 : Nat) : Int) = 0 := rfl
    rw [hm0, hz, hd0, h0] at x1
    rw [hz, hd0, h0] at m1
    have hV1 : V.1 = S.1 := by rw [m2.1]; exact x2.1
    have hVc : ∀ a, a < 151 → a ≠ 46 → a ≠ 146 → a ≠ 120 → V.2 a = S.2 a := fun a q1 q2 q3 q4 => by rw [m2.2.1 a q4, wr_c q3]; exact x2.2.1 a q1 q2
    refine ⟨drN S.2 p q r (nClaims S.2), T, V, ?_, ?_, ?_, Gw.of hV1⟩
    · rw [q_51]
      simp only [x_isYear, x_isSum, bR, bi_0]
      rw [if_neg (fun z => z hp), if_neg (by first | decide | omega), if_neg (by first | decide | omega), if_neg (by first | decide | omega), if_pos hf.2, q_85, x_isYear, bR]
      simp only [bi_0]
      rw [if_neg (fun z => z hp), if_neg (by first | decide | omega), if_pos hp]
      exact (congrArg (bindR · _) x1).trans rfl
    · rw [q_299]
      simp only [m_lies, bR, bi_0]
      rw [if_neg (by first | decide | omega), if_neg (by first | decide | omega), w32e (by first | decide | omega) (by first | decide | omega), if_neg (by first | decide | omega), if_pos hp]
      exact m1
    · refine H.marks hV1 (fun a q1 q2 => ?_) (fun a q1 q2 q3 q4 => hVc a q1 q2 q3 (by first | decide | omega)) (fun y hy => ?_) (fun c hcl => ?_) (fun c hcl => ?_) (fun c hcl a q1 q2 => ?_)
      · rw [m2.2.1 a (by first | decide | omega), wr_c (by first | decide | omega)]
        exact x2.2.2.2.1 a q1 q2
      · rw [m2.2.1 46 (by first | decide | omega), m2.2.1 146 (by first | decide | omega), wr_c (show (46 : Nat) ≠ 146 by decide), wr_f, x2.2.2.1 y, x2.2.1 146 (by first | decide | omega) (by first | decide | omega)]
        by_cases e : y = p.toNat
        · rw [if_pos e, if_pos e]
          omega
        · rw [if_neg e, if_neg e]
          exact gk.2.2.2.2.2.2.2.2.2.1 y hy
      · have h5 := (gk.ob hcl).1
        obtain ⟨a1, a2, a3, a4, a5, a6, a7, a8, a9, a10, a11, a12, a13, a14, a15, a16⟩ := gk.2.2.2.2.1 c hcl
        obtain ⟨z1, z2⟩ := x2.2.2.2.2 c hcl
        rw [if_pos (by first | decide | omega)] at z2
        have m3 := m2.2.2 c
        rw [if_pos (by first | decide | omega)] at m3
        rw [m2.2.1 (clA S c) (by first | decide | omega), wr_c (by first | decide | omega), hVc 118 (by first | decide | omega) (by first | decide | omega) (by first | decide | omega) (by first | decide | omega), hVc 119 (by first | decide | omega) (by first | decide | omega) (by first | decide | omega) (by first | decide | omega), hVc 121 (by first | decide | omega) (by first | decide | omega) (by first | decide | omega) (by first | decide | omega), hVc 122 (by first | decide | omega) (by first | decide | omega) (by first | decide | omega) (by first | decide | omega), m3, z1 10 (by decide), z1 11 (by decide), z1 13 (by decide), z2]
        exact ⟨fun k hk => z1 k (by first | decide | omega), a12, a13, rfl, a15⟩
      · obtain ⟨r1, r2, r3, r4, r5, r6, r7, r8, r9, r10, r11, r12, r13⟩ := gk.1.2.2.2.1 c hcl
        have m3 := m2.2.2 c
        rw [if_pos (by first | decide | omega)] at m3
        rw [hVc 119 (by first | decide | omega) (by first | decide | omega) (by first | decide | omega) (by first | decide | omega), hVc 121 (by first | decide | omega) (by first | decide | omega) (by first | decide | omega) (by first | decide | omega), hVc 122 (by first | decide | omega) (by first | decide | omega) (by first | decide | omega) (by first | decide | omega), m3]
        refine ⟨r9, ?_, r11, r12⟩
        unfold drw
        split
        · split
          · exact Or.inr rfl
          · exact Or.inl rfl
        · exact r10
      · by_cases e : a = 120
        · subst e
          rw [m2.2.2 c, if_neg (by first | decide | omega)]
        · rw [hVc a (by first | decide | omega) (by first | decide | omega) (by first | decide | omega) e]
  · refine Ok.same (r := -1) H ?_ ?_
    · rw [q_51]
      simp only [x_isYear, x_isSum, bR, bi_0]
      by_cases h1 : 0 ≤ p ∧ p < 10
      · rw [if_neg (fun z => z h1)]
        by_cases h2 : 0 ≤ q ∧ q ≤ 1000000000
        · rw [if_neg (fun z => z h2)]
          by_cases h3 : 0 ≤ r ∧ r ≤ 1000000000
          · rw [if_neg (fun z => z h3)]
            by_cases h4 : r < 1
            · rw [if_pos h4]
            · rw [if_neg h4, if_neg (by first | decide | omega)]
          · rw [if_pos h3]
        · rw [if_pos h2]
      · rw [if_pos h1]
    · rw [q_299]
      simp only [m_lies, bR, bi_0]
      by_cases h1 : 0 ≤ p ∧ p ≤ 9
      · rw [if_neg (fun z => z h1)]
        by_cases h2 : 1 ≤ r ∧ r ≤ 1000000000
        · rw [if_neg (fun z => z h2), w32e (by first | decide | omega) (by first | decide | omega), if_pos (by first | decide | omega)]
        · rw [if_pos h2]
      · rw [if_pos h1]
end
