/-! claims: access and marks -/
section
variable {L : Nat} {xs : Nat → Int} {d : Nat} {S S' : AH} {o : Nat}
theorem g14 (h : isO S o 12 15) (r : Rs) : gd (!(Nat.beq o 14)) r = r := by
  have : Nat.beq o 14 = false := by
    cases e : Nat.beq o 14 with
    | false => rfl
    | true =>
      have := Nat.eq_of_beq_eq_true e
      have := h.1
      omega
  rw [this]
  rfl
theorem k12 (h : isO S o 12 15) (r : Rs) : gd (Nat.beq (shp (WK L xs) S o).1 12) r = r := by
  rw [shpD h.1, h.2.2]
  rfl
theorem k12a (h : isO S o 12 15) (r : Rs) : gd (Nat.beq (shp (WK L xs) S o).1 12 && Nat.ble 0 8) r = r := by
  rw [shpD h.1, h.2.2]
  rfl
theorem k12b (h : isO S o 12 15) (r : Rs) : gd (Nat.beq (shp (WK L xs) S o).1 12 && Nat.ble 2 8) r = r := by
  rw [shpD h.1, h.2.2]
  rfl
theorem wokD {a k : Nat} (h : 151 ≤ a) : wok (WK L xs) a k = true := by
  have e : (WK L xs).2.2 a k = none := by
    rw [WK_fin (by first | decide | omega), show fnl.getD a [] = [] by rw [List.getD_eq_getElem?_getD, List.getElem?_eq_none (by rw [fnl_len2]; exact h)]; rfl]
    rfl
  unfold wok
  rw [e, Nat.ble_eq_true_of_le (by first | decide | omega)]
  rfl
theorem k12w {k : Nat} (h : isO S o 12 15) (r : Rs) : gd (Nat.beq (shp (WK L xs) S o).1 12 && wok (WK L xs) o k) r = r := by
  rw [shpD h.1, h.2.2, wokD h.1]
  rfl
theorem GK.ob (H : GK S) {c : Nat} (hc : (c : Int) < S.2 72 52) : isO S (clA S c) 12 15 := (H.2.2.2.2.1 c hc).1
theorem GK.n (H : GK S) : 0 ≤ S.2 72 52 ∧ S.2 72 52 ≤ 300 := H.1.1
theorem x_cl (H : GK S) {c : Nat} (hc : (c : Int) < S.2 72 52) : ev (WK L xs) (d + 1) 80 [vr 43, vi (c : Int)] S = some ((clA S c : Int), S) := by
  have := H.n
  rw [q_80, H.2.1, if_neg (by first | decide | omega), if_pos hc, if_pos (by first | decide | omega), Int.toNat_natCast]
  rfl
theorem x_cl0 (H : GK S) {p : Int} (hc : ¬ (0 ≤ p ∧ p < S.2 72 52)) : ev (WK L xs) (d + 1) 80 [vr 43, vi p] S = some (0, S) := by
  rw [q_80, H.2.1]
  by_cases h : p < 0
  · rw [if_pos h]
  · rw [if_neg h, if_neg (by first | decide | omega)]
theorem m_isClaim (H : RK S.2) (p : Int) : ev (WK L xs) (d + 2) 259 [vr 72, vi p] S = some (bi (0 ≤ p ∧ p < S.2 72 52), S) := by
  have := H.1
  rw [q_259, m_lies, bR, w32e (by first | decide | omega) (by first | decide | omega), if_pos (by rw [bi_01]; trivial)]
  congr 2
  apply bi_iff
  omega
theorem x_isPaid (h : isO S o 12 15) : ev (WK L xs) (d + 1) 76 [vr o] S = some (bi (S.2 o 7 ≠ -1), S) := by
  rw [q_76, k12 h, rdvD h.1, ite_bin]
theorem x_paidIn (h : isO S o 12 15) (y : Int) : ev (WK L xs) (d + 2) 75 [vr o, vi y] S = some (bi (S.2 o 7 ≠ -1 ∧ yr (S.2 o 7) = y), S) := by
  rw [q_75, k12a h, x_isPaid h, bR]
  simp only [bi_0]
  by_cases h1 : S.2 o 7 ≠ -1
  · rw [if_neg (fun z => z h1), k12 h, q_17, bR, rdvD h.1]
    show (if yr (S.2 o 7) = y then some (1, S) else some (0, S)) = _
    rw [ite_bi]
    congr 2
    apply bi_iff
    simp [h1]
  · rw [if_pos h1, bi_F (fun z => h1 z.1)]
theorem m_paidIn {c : Nat} (hc : c < 300) (y : Int) : ev (WK L xs) (d + 1) 248 [vr 72, vi (c : Int), vi y] S = some (bi (pin S.2 c y = true), S) := by
  rw [q_248, if_pos (by first | decide | omega), Int.toNat_natCast]
  unfold pin
  by_cases h1 : S.2 115 c = -1
  · rw [if_pos h1, bi_F (by simp [h1])]
  · rw [if_neg h1, if_pos (by first | decide | omega)]
    show (if yr (S.2 115 c) = y then some (1, S) else some (0, S)) = _
    rw [ite_bi]
    congr 2
    apply bi_iff
    simp [h1]
theorem Inv.mark1 (H : Inv S) {c : Nat} (hcl : (c : Int) < S.2 72 52) (hS : S'.1 = S.1) (hF : ∀ a, 151 ≤ a → a ≠ clA S c → S'.2 a = S.2 a) (hc : ∀ a, a < 151 → ¬ (118 ≤ a ∧ a ≤ 122) → S'.2 a = S.2 a) (hp : ∀ a j, 118 ≤ a → a ≤ 122 → j ≠ c → S'.2 a j = S.2 a j)
    (hO : (∀ k, ¬ (10 ≤ k ∧ k ≤ 13) → S'.2 (clA S c) k = S.2 (clA S c) k) ∧ S'.2 (clA S c) 10 = S'.2 118 c ∧ S'.2 (clA S c) 11 = S'.2 119 c ∧ S'.2 (clA S c) 12 = S'.2 120 c ∧ S'.2 (clA S c) 13 = (if S'.2 121 c = 1 then S'.2 122 c else -1))
    (hR : (S'.2 119 c = 0 ∨ S'.2 119 c = 1) ∧ (S'.2 120 c = 0 ∨ S'.2 120 c = 1) ∧ (S'.2 121 c = 0 ∨ S'.2 121 c = 1) ∧ 0 ≤ S'.2 122 c ∧ S'.2 122 c ≤ S.2 111 c) : Inv S' := by
  have gk := H.gk
  refine H.marks hS (fun a q1 q2 => hF a q1 (q2 c hcl)) (fun a q1 q2 q3 q4 => hc a q1 q4) (fun y hy => ?_) (fun e he => ?_) (fun e he => ?_) (fun e he a q1 q2 => hp a e q1 q2 (by first | decide | omega))
  · rw [hc 46 (by first | decide | omega) (by first | decide | omega), hc 146 (by first | decide | omega) (by first | decide | omega)]
    exact gk.2.2.2.2.2.2.2.2.2.1 y hy
  · by_cases hec : e = c
    · subst hec
      exact hO
    · have hn : clA S e ≠ clA S c := fun z => hec (gk.2.2.2.2.2.1 e c he hcl z)
      have hA := gk.2.2.2.2.1 e he
      rw [hF _ hA.1.1 hn, hp 118 e (by first | decide | omega) (by first | decide | omega) hec, hp 119 e (by first | decide | omega) (by first | decide | omega) hec, hp 120 e (by first | decide | omega) (by first | decide | omega) hec, hp 121 e (by first | decide | omega) (by first | decide | omega) hec, hp 122 e (by first | decide | omega) (by first | decide | omega) hec]
      obtain ⟨a1, a2, a3, a4, a5, a6, a7, a8, a9, a10, a11, a12, a13, a14, a15, a16⟩ := hA
      exact ⟨fun _ _ => rfl, a12, a13, a14, a15⟩
  · by_cases hec : e = c
    · subst hec
      exact hR
    · rw [hp 119 e (by first | decide | omega) (by first | decide | omega) hec, hp 120 e (by first | decide | omega) (by first | decide | omega) hec, hp 121 e (by first | decide | omega) (by first | decide | omega) hec, hp 122 e (by first | decide | omega) (by first | decide | omega) hec]
      obtain ⟨a1, a2, a3, a4, a5, a6, a7, a8, a9, a10, a11, a12, a13⟩ := gk.1.2.2.2.1 e he
      exact ⟨a9, a10, a11, a12⟩
theorem o_test (H : Inv S) (p q : Int) : Ok L xs 53 301 [vi p, vi q] S := by
  have gk := H.gk
  have hn := gk.n
  by_cases hp : 0 ≤ p ∧ p < S.2 72 52
  · obtain ⟨c, hc⟩ := Int.eq_ofNat_of_zero_le hp.1
    subst hc
    have ho := gk.ob hp.2
    have h5 := ho.1
    obtain ⟨a1, a2, a3, a4, a5, a6, a7, a8, a9, a10, a11, a12, a13, a14, a15, a16⟩ := gk.2.2.2.2.1 c hp.2
    obtain ⟨r1, r2, r3, r4, r5, r6, r7, r8, r9, r10, r11, r12, r13⟩ := gk.1.2.2.2.1 c hp.2
    have hq : (0 : Int) ≤ (c : Int) ∧ (c : Int) < 300 := by omega
    by_cases hk : S.2 120 c ≠ 0 ∧ (0 ≤ q ∧ q ≤ S.2 111 c)
    · refine ⟨1, wr S (clA S c) 13 q, wr (wr (wr S (clA S c) 13 q) 121 c 1) 122 c q, ?_, ?_, ?_, Gw.of rfl⟩
      · rw [q_53, x_cl gk hp.2, bR, Int.toNat_natCast, if_neg (by first | decide | omega), g14 ho, k12 ho, rdvD h5, a14, if_neg hk.1, if_neg (by first | decide | omega), k12 ho, rdvD h5, a5, if_neg (by first | decide | omega), k12w ho]
      · have e1 : ∀ a, a < 151 → (wr S (clA S c) 13 q).2 a = S.2 a := fun a ha => wr_c (by first | decide | omega)
        have hR' : RK (wr S (clA S c) 13 q).2 := gk.1.fr (fun a ha => e1 a (by first | decide | omega)) (fun k _ => by rw [e1 72 (by first | decide | omega)]) (by unfold HM; rw [e1 72 (by first | decide | omega)]; omega)
        rw [q_301, m_isClaim hR', bR]
        simp only [bi_0, e1 72 (by first | decide | omega), e1 120 (by first | decide | omega), e1 111 (by first | decide | omega), Int.toNat_natCast, m_lies, bR]
        rw [if_neg (fun z => z hp), if_pos hq, if_neg hk.1, if_pos hq, if_neg (fun z => z hk.2), if_pos hq, if_pos hq]
      · refine H.mark1 hp.2 rfl (fun a q1 q2 => ?_) (fun a q1 q2 => ?_) (fun a j q1 q2 q3 => ?_) ⟨fun k hk2 => ?_, ?_, ?_, ?_, ?_⟩ ?_
        · rw [wr_c (by first | decide | omega), wr_c (by first | decide | omega), wr_c q2]
        · rw [wr_c (by first | decide | omega), wr_c (by first | decide | omega), wr_c (by first | decide | omega)]
        · simp only [wr_2]
          rw [if_neg (fun z => q3 z.2), if_neg (fun z => q3 z.2), if_neg (by first | decide | omega)]
        · rw [wr_c (by first | decide | omega), wr_c (by first | decide | omega), wr_f, if_neg (by first | decide | omega)]
        · rw [wr_c (show clA S c ≠ 122 by omega), wr_c (show clA S c ≠ 121 by omega), wr_f, if_neg (by decide), wr_c (by decide), wr_c (by decide), wr_c (by first | decide | omega), a12]
        · rw [wr_c (show clA S c ≠ 122 by omega), wr_c (show clA S c ≠ 121 by omega), wr_f, if_neg (by decide), wr_c (by decide), wr_c (by decide), wr_c (by first | decide | omega), a13]
        · rw [wr_c (show clA S c ≠ 122 by omega), wr_c (show clA S c ≠ 121 by omega), wr_f, if_neg (by decide), wr_c (by decide), wr_c (by decide), wr_c (by first | decide | omega), a14]
        · rw [wr_c (show clA S c ≠ 122 by omega), wr_c (show clA S c ≠ 121 by omega), wr_f, if_pos rfl, wr_c (show (121 : Nat) ≠ 122 by decide), wr_f, if_pos rfl, if_pos rfl, wr_f, if_pos rfl]
        · rw [wr_c (show (119 : Nat) ≠ 122 by decide), wr_c (show (119 : Nat) ≠ 121 by decide), wr_c (show 119 ≠ clA S c by omega), wr_c (show (120 : Nat) ≠ 122 by decide), wr_c (show (120 : Nat) ≠ 121 by decide), wr_c (show 120 ≠ clA S c by omega), wr_c (show (121 : Nat) ≠ 122 by decide), wr_f, wr_f, if_pos rfl, if_pos rfl]
          exact ⟨r9, r10, Or.inr rfl, hk.2⟩
    · refine Ok.same (r := 0) H ?_ ?_
      · rw [q_53, x_cl gk hp.2, bR, Int.toNat_natCast, if_neg (by first | decide | omega), g14 ho, k12 ho, rdvD h5, a14]
        by_cases h1 : S.2 120 c = 0
        · rw [if_pos h1]
        · rw [if_neg h1]
          by_cases h2 : q < 0
          · rw [if_pos h2]
          · rw [if_neg h2, k12 ho, rdvD h5, a5, if_pos (by first | decide | omega)]
      · rw [q_301, m_isClaim gk.1, bR]
        simp only [bi_0, Int.toNat_natCast, m_lies, bR]
        rw [if_neg (fun z => z hp), if_pos hq]
        by_cases h1 : S.2 120 c = 0
        · rw [if_pos h1]
        · rw [if_neg h1, if_pos hq, if_pos (fun z => hk ⟨h1, z⟩)]
  · refine Ok.same (r := 0) H ?_ ?_
    · rw [q_53, x_cl0 gk hp, bR, if_pos (by decide)]
    · rw [q_301, m_isClaim gk.1, bR]
      simp only [bi_0]
      rw [if_pos hp]
theorem o_question (H : Inv S) (p : Int) : Ok L xs 55 303 [vi p] S := by
  have gk := H.gk
  have hn := gk.n
  by_cases hp : 0 ≤ p ∧ p < S.2 72 52
  · obtain ⟨c, hc⟩ := Int.eq_ofNat_of_zero_le hp.1
    subst hc
    have ho := gk.ob hp.2
    have h5 := ho.1
    obtain ⟨a1, a2, a3, a4, a5, a6, a7, a8, a9, a10, a11, a12, a13, a14, a15, a16⟩ := gk.2.2.2.2.1 c hp.2
    obtain ⟨r1, r2, r3, r4, r5, r6, r7, r8, r9, r10, r11, r12, r13⟩ := gk.1.2.2.2.1 c hp.2
    have hq : (0 : Int) ≤ (c : Int) ∧ (c : Int) < 300 := by omega
    by_cases hk : S.2 115 c ≠ -1 ∧ S.2 118 c = 0
    · refine ⟨1, wr S (clA S c) 10 1, wr (wr S (clA S c) 10 1) 118 c 1, ?_, ?_, ?_, Gw.of rfl⟩
      · rw [q_55, x_cl gk hp.2, bR, Int.toNat_natCast, if_neg (by first | decide | omega), g14 ho, k12a ho, x_isPaid ho, bR]
        simp only [bi_0]
        rw [a9, if_neg (fun z => z hk.1), k12 ho, rdvD h5, a12, if_pos hk.2, k12w ho]
      · have e1 : ∀ a, a < 151 → (wr S (clA S c) 10 1).2 a = S.2 a := fun a ha => wr_c (by first | decide | omega)
        have hR' : RK (wr S (clA S c) 10 1).2 := gk.1.fr (fun a ha => e1 a (by first | decide | omega)) (fun k _ => by rw [e1 72 (by first | decide | omega)]) (by unfold HM; rw [e1 72 (by first | decide | omega)]; omega)
        rw [q_303, m_isClaim hR', bR]
        simp only [bi_0, e1 72 (by first | decide | omega), e1 115 (by first | decide | omega), e1 118 (by first | decide | omega), Int.toNat_natCast, bR]
        rw [if_neg (fun z => z hp), if_pos hq, if_neg hk.1, if_pos hq, if_pos hk.2, if_pos hq]
      · refine H.mark1 hp.2 rfl (fun a q1 q2 => ?_) (fun a q1 q2 => ?_) (fun a j q1 q2 q3 => ?_) ⟨fun k hk2 => ?_, ?_, ?_, ?_, ?_⟩ ?_
        · rw [wr_c (by first | decide | omega), wr_c q2]
        · rw [wr_c (by first | decide | omega), wr_c (by first | decide | omega)]
        · simp only [wr_2]
          rw [if_neg (fun z => q3 z.2), if_neg (by first | decide | omega)]
        · rw [wr_c (by first | decide | omega), wr_f, if_neg (by first | decide | omega)]
        · rw [wr_c (show clA S c ≠ 118 by omega), wr_f, if_pos rfl, wr_f, if_pos rfl]
        · rw [wr_c (show clA S c ≠ 118 by omega), wr_f, if_neg (by decide), wr_c (by decide), wr_c (by first | decide | omega), a13]
        · rw [wr_c (show clA S c ≠ 118 by omega), wr_f, if_neg (by decide), wr_c (by decide), wr_c (by first | decide | omega), a14]
        · rw [wr_c (show clA S c ≠ 118 by omega), wr_f, if_neg (by decide), wr_c (show (121 : Nat) ≠ 118 by decide), wr_c (show 121 ≠ clA S c by omega), wr_c (show (122 : Nat) ≠ 118 by decide), wr_c (show 122 ≠ clA S c by omega), a15]
        · rw [wr_c (show (119 : Nat) ≠ 118 by decide), wr_c (show 119 ≠ clA S c by omega), wr_c (show (120 : Nat) ≠ 118 by decide), wr_c (show 120 ≠ clA S c by omega), wr_c (show (121 : Nat) ≠ 118 by decide), wr_c (show 121 ≠ clA S c by omega), wr_c (show (122 : Nat) ≠ 118 by decide), wr_c (show 122 ≠ clA S c by omega)]
          exact ⟨r9, r10, r11, r12⟩
    · refine Ok.same (r := 0) H ?_ ?_
      · rw [q_55, x_cl gk hp.2, bR, Int.toNat_natCast, if_neg (by first | decide | omega), g14 ho, k12a ho, x_isPaid ho, bR]
        simp only [bi_0]
        rw [a9]
        by_cases h1 : S.2 115 c ≠ -1
        · rw [if_neg (fun z => z h1), k12 ho, rdvD h5, a12, if_neg (fun z => hk ⟨h1, z⟩)]
        · rw [if_pos h1]
      · rw [q_303, m_isClaim gk.1, bR]
        simp only [bi_0, Int.toNat_natCast]
        rw [if_neg (fun z => z hp), if_pos hq]
        by_cases h1 : S.2 115 c = -1
        · rw [if_pos h1]
        · rw [if_neg h1, if_pos hq, if_neg (fun z => hk ⟨h1, z⟩)]
  · refine Ok.same (r := 0) H ?_ ?_
    · rw [q_55, x_cl0 gk hp, bR, if_pos (by decide)]
    · rw [q_303, m_isClaim gk.1, bR]
      simp only [bi_0]
      rw [if_pos hp]
end
