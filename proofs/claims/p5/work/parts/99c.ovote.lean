/-! vote: the call -/
section
variable {L : Nat} {xs : Nat → Int} {d : Nat} {S S' T U W A : AH} {t : TB} {n p : Nat}
theorem vote_fin (H : Inv S) {nA n tx : Nat} {x : TXT} (hn : S.2 72 40 = nA) (hn80 : nA < 80) {k hd s y : Int} (hk : k = 0 ∨ k = 2 ∨ k = 3) (hhd : 0 ≤ hd ∧ hd < S.2 72 4) (hs : 0 ≤ s ∧ s ≤ 1000000000) (hy : 0 ≤ y ∧ y ≤ 9)
    (hA1 : S.1.1 ≤ A.1.1 ∧ A.1.1 ≤ S.1.1 + 4 ∧ A.1.2.1 ≤ S.1.2.1 + 300) (hF : ∀ a, 151 ≤ a → a < S.1.1 → A.1.2.2 a = S.1.2.2 a ∧ A.2 a = S.2 a) (hc : ∀ a, a < 151 → a ≠ 15 → a ≠ 22 → a ≠ 23 → a ≠ 24 → A.2 a = S.2 a) (h15 : ∀ j, A.2 15 j = if j = 4 then 0 else S.2 15 j) (hT : CX2 A tx false x)
    (hR : ∀ W : AH, W.2 73 = S.2 73 → ∃ U, ev (WK L xs) 199 204 [vr 72, vi (n : Int), vi 0] W = some (0, U) ∧ Tf W U ∧ U.2 72 1 = 0 ∧ RTf U x) :
    ∃ B Z, LQ (WK L xs) (ev (WK L xs) 199) 12 135 [some (vr 15), some (vi k), some (vi hd), some (vi s), some (vi y), none, none, none] [vr tx] A = some ((nA : Int), B) ∧ (∀ a, 72 ≤ a → a < 151 → B.2 a = S.2 a) ∧ bindR (ev (WK L xs) 199 204 [vr 72, vi (n : Int), vi 0] B) (fun r9 S10 => (if r9 < 0 then (some (r9, S10)) else (bindR (ev (WK L xs) 199 239 [vr 72, vi k, vi hd, vi s, vi y] S10) (fun r11 S12 => (bindR (ev (WK L xs) 199 230 [vr 72, vi (w32 ((20 : Int) + r11))] S12) (fun r13 S14 => (some (r11, S14)))))))) = some ((nA : Int), Z) ∧ Inv Z ∧ Gw S Z := by
  have hk04 : 0 ≤ k ∧ k ≤ 4 := by omega
  have hk1 : k ≠ 1 := by omega
  have n20 : decide (20 + nA < 20) = false := decide_eq_false (by first | decide | omega)
  have i1 := H.1
  have gv := H.gv
  have ht := H.gt
  have iA : 151 ≤ A.1.1 := by omega
  have A36 : A.2 36 1 = nA := by rw [hc 36 (by decide) (by decide) (by decide) (by decide) (by decide), gv.2.1, hn]
  generalize hD : auS A k hd s y (S.2 72 2) tx (-1) = D
  have loD : ∀ a, a < 151 → D.2 a = A.2 a := fun a q => by rw [← hD, (auS_hi (by first | decide | omega)).2]
  have oD := auS_o (S := A) (k := k) (hd := hd) (s := s) (y := y) (td := S.2 72 2) (tx := tx) (bs := -1) iA
  rw [hD] at oD
  generalize hB : wr (wr D 37 nA (A.1.1 : Int)) 36 1 ((nA : Int) + 1) = B
  have B1 : B.1 = D.1 := by rw [← hB]; rfl
  have cB : ∀ a, a ≠ 36 → a ≠ 37 → B.2 a = D.2 a := fun a q1 q2 => by rw [← hB, wr_c q1, wr_c q2]
  have xx : LQ (WK L xs) (ev (WK L xs) 199) 12 135 [some (vr 15), some (vi k), some (vi hd), some (vi s), some (vi y), none, none, none] [vr tx] A = some ((nA : Int), B) := by
    have hs : (nw A 11 14).1.2.2 A.1.1 = (11, 14) := by rw [nw_s, if_pos rfl]
    have g1 : ∀ r : Rs, gd (Nat.beq (shp (WK L xs) (nw A 11 14) A.1.1).1 11 && Nat.ble 2 8) r = r := fun r => by rw [shpD iA, hs]; rfl
    have e15 : (nw A 11 14).2 15 0 = S.2 72 2 := by rw [nw_2, if_neg (by first | decide | omega), h15, if_neg (by decide), ht.1]
    rw [q_12_135, g1, e15, x_newAu iA, bR, hD, x_addAu oD.1 (by rw [loD 36 (by decide), A36]) hn80, bR, hB]
  have lo : ∀ a, 72 ≤ a → a < 151 → B.2 a = S.2 a := fun a q1 q2 => by rw [cB a (by first | decide | omega) (by first | decide | omega), loD a q2, hc a q2 (by first | decide | omega) (by first | decide | omega) (by first | decide | omega) (by first | decide | omega)]
  obtain ⟨U, u1, u2, u3, u4⟩ := hR B (lo 73 (by decide) (by decide))
  have U40 : U.2 72 40 = nA := by rw [u2.2.2 40 (by decide) (by decide) (by decide), lo 72 (by decide) (by decide), hn]
  have U2 : U.2 72 2 = S.2 72 2 := by rw [u2.2.2 2 (by decide) (by decide) (by decide), lo 72 (by decide) (by decide)]
  obtain ⟨V, v1, v2, v3, v4, v5, v6, v7, v8, v9, v10, v11, v12, v13, v14, v15⟩ := m_addAu (L := L) (xs := xs) (d := 198) (W := U) (n := nA) U40 hn80 k hd s y
  have RV4 : RTf V x := by
    obtain ⟨⟨w1, w2, w3⟩, w4, w5, w6⟩ := u4
    refine ⟨⟨by rw [v4 21 (by decide), w1], w2, fun j q hq => ?_⟩, by rw [v4 22 (by decide), w4], w5, fun i q hq => ?_⟩
    · rw [v3 86 (by decide) (by decide) (by decide), v3 87 (by decide) (by decide) (by decide), v3 88 (by decide) (by decide) (by decide), v3 89 (by decide) (by decide) (by decide), v3 90 (by decide) (by decide) (by decide)]
      exact w3 j q hq
    · rw [v3 91 (by decide) (by decide) (by decide), v3 92 (by decide) (by decide) (by decide)]
      exact w6 i q hq
  obtain ⟨Z, z1, z2, z3⟩ := m_keeps (L := L) (xs := xs) (d := 198) (tt := 20 + nA) (by first | decide | omega) RV4
  have Z1 : Z.1 = D.1 := by rw [z2.1, v2, u2.1, B1]
  have w20 : w32 ((20 : Int) + (nA : Int)) = ((20 + nA : Nat) : Int) := by
    rw [w32e (by first | decide | omega) (by first | decide | omega)]
    omega
  refine ⟨B, Z, xx, lo, ?_, ?_, ?_⟩
  · rw [u1, bR, if_neg (by decide), show ev (WK L xs) 199 239 [vr 72, vi k, vi hd, vi s, vi y] U = some ((nA : Int), V) from v1, bR, w20, show ev (WK L xs) 199 230 [vr 72, vi ((20 + nA : Nat) : Int)] V = some (0, Z) from z1, bR]
  · have H1 := H.tape0
    have zA : ∀ a, a ≠ 72 → ¬ (78 ≤ a ∧ a ≤ 85) → ¬ (86 ≤ a ∧ a ≤ 93) → ¬ (97 ≤ a ∧ a ≤ 104) → Z.2 a = B.2 a := fun a q1 q2 q3 q4 => by rw [z2.2.1 a q2, v3 a q1 (by first | decide | omega) q4, u2.2.1 a q1 q3]
    have z72 : ∀ j, j ≠ 40 → Z.2 72 j = U.2 72 j := fun j q => by rw [z2.2.1 72 (by decide), v4 j q]
    obtain ⟨E, hE⟩ : ∃ E : AH, E = (A.1, fun a j => if (a = 72 ∧ j ≠ 40) ∨ (86 ≤ a ∧ a ≤ 93) then Z.2 a j else A.2 a j) := ⟨_, rfl⟩
    have E1 : E.1 = A.1 := by rw [hE]
    have E2 : ∀ a j, E.2 a j = if (a = 72 ∧ j ≠ 40) ∨ (86 ≤ a ∧ a ≤ 93) then Z.2 a j else A.2 a j := fun a j => by rw [hE]
    have EA : ∀ a, a ≠ 72 → ¬ (86 ≤ a ∧ a ≤ 93) → E.2 a = A.2 a := fun a q1 q2 => by
      funext j
      rw [E2, if_neg (fun z => z.elim (fun y => q1 y.1) q2)]
    have S1c : ∀ a, a ≠ 15 → a ≠ 72 → (wr (wr S 15 4 0) 72 1 0).2 a = S.2 a := fun a q1 q2 => by rw [wr_c q2, wr_c q1]
    have HE : Inv E := by
      refine H1.nscr ⟨by rw [E1]; exact hA1.1, fun a q1 q2 => ⟨?_, ?_⟩⟩ (fun a j q1 q2 => ?_)
      · rw [E1, (hF a q1 q2).1]
        rfl
      · rw [EA a (by first | decide | omega) (by first | decide | omega), (hF a q1 q2).2, S1c a (by first | decide | omega) (by first | decide | omega)]
      · unfold nscr scr at q2
        by_cases e72 : a = 72
        · subst e72
          rw [E2]
          by_cases e40 : j = 40
          · rw [if_neg (fun z => z.elim (fun y => y.2 e40) (fun y => by omega)), hc 72 (by decide) (by decide) (by decide) (by decide) (by decide), wr_f, if_neg (by first | decide | omega), wr_c (by decide)]
          · rw [if_pos (Or.inl ⟨rfl, e40⟩), z72 j e40, wr_f]
            by_cases ej : j = 1
            · rw [if_pos ej, ej, u3]
            · rw [if_neg ej, u2.2.2 j ej (by first | decide | omega) (by first | decide | omega), lo 72 (by decide) (by decide), wr_c (by decide)]
        · rw [EA a e72 (by first | decide | omega)]
          by_cases e15 : a = 15
          · subst e15
            rw [h15, wr_c (by decide), wr_f]
          · rw [hc a q1 e15 (by first | decide | omega) (by first | decide | omega) (by first | decide | omega), S1c a e15 e72]
    have Enow : E.2 72 2 = S.2 72 2 := by rw [E2, if_pos (Or.inl ⟨rfl, by decide⟩), z72 2 (by decide), U2]
    have E4 : E.2 72 4 = S.2 72 4 := by rw [E2, if_pos (Or.inl ⟨rfl, by decide⟩), z72 4 (by decide), u2.2.2 4 (by decide) (by decide) (by decide), lo 72 (by decide) (by decide)]
    have auE : (auS E k hd s y (S.2 72 2) tx (-1)).1 = D.1 := by
      rw [← hD]
      show ((E.1.1 + 1 + 1, E.1.2.1 + 14 + 10, fun b => if b = E.1.1 + 1 then (3, 10) else if b = E.1.1 then (11, 14) else E.1.2.2 b) : AG) = (A.1.1 + 1 + 1, A.1.2.1 + 14 + 10, fun b => if b = A.1.1 + 1 then (3, 10) else if b = A.1.1 then (11, 14) else A.1.2.2 b)
      rw [E1]
    have Zhi : ∀ a, 151 ≤ a → Z.2 a = D.2 a := fun a q => by rw [zA a (by first | decide | omega) (by first | decide | omega) (by first | decide | omega) (by first | decide | omega), cB a (by first | decide | omega) (by first | decide | omega)]
    refine HE.newB (n := nA) (tx := tx) (k := k) (hd := hd) (s := s) (y := y) (td := S.2 72 2) (bs := -1) ?_ hn80 ?_ (fun a q => ?_) (fun a q1 q2 q3 q4 q5 q6 => ?_) (fun j q => ?_) ?_ (fun j q => ?_) ?_ (fun j => ?_) (fun a j q1 q2 q3 => ?_) (fun tt w q1 q2 => ?_) ?_ ?_ ?_ ?_ ?_ ?_ ?_ ?_ ?_ ?_
    · rw [E2, if_neg (fun z => z.elim (fun y => y.2 rfl) (fun y => by omega)), hc 72 (by decide) (by decide) (by decide) (by decide) (by decide), hn]
    · rw [auE, Z1]
    · rw [Zhi a q, ← hD]
      show (if a = A.1.1 then auF k hd s y (S.2 72 2) tx (-1) (A.1.1 + 1) else if a = A.1.1 + 1 then fun _ => 0 else A.2 a) = (if a = E.1.1 then auF k hd s y (S.2 72 2) tx (-1) (E.1.1 + 1) else if a = E.1.1 + 1 then fun _ => 0 else E.2 a)
      rw [E1, EA a (by first | decide | omega) (by first | decide | omega)]
    · by_cases e : 86 ≤ a ∧ a ≤ 93
      · funext j
        rw [E2, if_pos (Or.inr e)]
      · rw [EA a q4 e, zA a q4 q5 e q6, cB a q2 q3, loD a q1]
    · rw [zA 36 (by decide) (by decide) (by decide) (by decide), ← hB, wr_f, if_neg q, wr_c (by decide), loD 36 (by decide), EA 36 (by decide) (by decide)]
    · rw [zA 36 (by decide) (by decide) (by decide) (by decide), ← hB, wr_f, if_pos rfl]
    · rw [E2, if_pos (Or.inl ⟨rfl, q⟩)]
    · rw [z2.2.1 72 (by decide), v5]
    · rw [zA 37 (by decide) (by decide) (by decide) (by decide), ← hB, wr_c (by decide), wr_f, loD 37 (by decide), E1, EA 37 (by decide) (by decide)]
    · rw [z2.2.1 a (by first | decide | omega), v7 a j q1 q2 q3, u2.2.1 a (by first | decide | omega) (by first | decide | omega), lo a (by first | decide | omega) (by first | decide | omega), EA a (by first | decide | omega) (by first | decide | omega), hc a (by first | decide | omega) (by first | decide | omega) (by first | decide | omega) (by first | decide | omega) (by first | decide | omega)]
    · refine z2.rx q1 (q2.c78 ?_ (fun a w1 w2 => ?_))
      · rw [v6 tt, if_neg (by first | decide | omega), u2.2.1 78 (by decide) (by decide), lo 78 (by decide) (by decide), EA 78 (by decide) (by decide), hc 78 (by decide) (by decide) (by decide) (by decide) (by decide)]
      · rw [v3 a (by first | decide | omega) (by first | decide | omega) (by first | decide | omega), u2.2.1 a (by first | decide | omega) (by first | decide | omega), lo a (by first | decide | omega) (by first | decide | omega), EA a (by first | decide | omega) (by first | decide | omega), hc a (by first | decide | omega) (by first | decide | omega) (by first | decide | omega) (by first | decide | omega) (by first | decide | omega)]
    · unfold nwR
      rw [z2.2.1 97 (by decide), z2.2.1 98 (by decide), z2.2.1 99 (by decide), z2.2.1 100 (by decide), z2.2.1 102 (by decide), z2.2.1 104 (by decide), v8, v9, v10, v11, v13, v15, U2, E4]
      exact ⟨hk04, hhd, hs, hy, ht.2, fun z => absurd z hk1, fun _ => rfl⟩
    · rw [z2.2.1 97 (by decide), v8]
    · rw [z2.2.1 98 (by decide), v9]
    · rw [z2.2.1 99 (by decide), v10]
    · rw [z2.2.1 100 (by decide), v11]
    · rw [z2.2.1 104 (by decide), v15, U2]
    · rw [z2.2.1 97 (by decide), v8, if_neg hk1]
    · rw [z2.2.1 101 (by decide), v12]
    · rw [z2.2.1 103 (by decide), v14]
    · refine ⟨x, z3, ?_⟩
      rw [n20]
      refine hT.fr ⟨?_, fun a q1 q2 => ⟨?_, ?_⟩⟩
      · rw [Z1, ← hD]
        show A.1.1 ≤ A.1.1 + 1 + 1
        omega
      · rw [Z1, ← hD, (auS_hi q2).1]
      · rw [Zhi a q1, ← hD, (auS_hi q2).2]
  · unfold Gw
    rw [Z1, ← hD]
    show A.1.1 + 1 + 1 ≤ _ ∧ A.1.2.1 + 14 + 10 ≤ _
    omega
noncomputable def vtQ (h : Nat → Nat → Int) (p1 p2 p3 p4 p5 : Int) : Prop := (p1 = 0 ∨ p1 = 2 ∨ p1 = 3) ∧ (0 ≤ p2 ∧ p2 < h 72 4) ∧ (0 ≤ p3 ∧ p3 ≤ 1000000000) ∧ (0 ≤ p4 ∧ p4 < 10) ∧ h 72 40 < 80 ∧ (0 ≤ p5 ∧ p5 ≤ 200) ∧ p5 ≤ h 72 1
theorem o_vote (H : Inv S) (p1 p2 p3 p4 p5 : Int) : Ok L xs 12 237 [vi p1, vi p2, vi p3, vi p4, vi p5] S := by
  have gv := H.gv
  have gb := H.gb
  have gp := H.gp
  have i1 := H.1
  have hn80 := gv.1.1
  by_cases hQ : vtQ S.2 p1 p2 p3 p4 p5
  rotate_left
  · refine Ok.same (r := -1) H ?_ ?_
    · have go : ev (WK L xs) 200 12 [vr 15, vi p1, vi p2, vi p3, vi p4, vi p5] S = if p1 = 0 ∨ p1 = 2 ∨ p1 = 3 then (LQ (WK L xs) (ev (WK L xs) 199) 12 16 [some (vr 15), some (vi p1), some (vi p2), some (vi p3), some (vi p4), some (vi p5), none, none] [] S) else some (-1, S) := by
        rw [q_12]
        by_cases q1 : p1 = 0
        · rw [if_pos q1, if_pos (Or.inl q1)]
        · rw [if_neg q1]
          by_cases q2 : p1 = 2
          · rw [if_pos q2, if_pos (Or.inr (Or.inl q2))]
          · rw [if_neg q2]
            by_cases q3 : p1 = 3
            · rw [if_pos q3, if_pos (Or.inr (Or.inr q3))]
            · rw [if_neg q3, if_neg (by first | decide | omega)]
      rw [go]
      by_cases c0 : p1 = 0 ∨ p1 = 2 ∨ p1 = 3
      rotate_left
      · rw [if_neg c0]
      rw [if_pos c0, q_12_16, x_isHead, bR, gp.2.1]
      simp only [bi_0]
      by_cases c1 : 0 ≤ p2 ∧ p2 < S.2 72 4
      rotate_left
      · rw [if_pos c1]
      rw [if_neg (fun z => z c1), x_isSum, bR]
      simp only [bi_0]
      by_cases c2 : 0 ≤ p3 ∧ p3 ≤ 1000000000
      rotate_left
      · rw [if_pos c2]
      rw [if_neg (fun z => z c2), x_isYear, bR]
      simp only [bi_0]
      by_cases c3 : 0 ≤ p4 ∧ p4 < 10
      rotate_left
      · rw [if_pos c3]
      rw [if_neg (fun z => z c3), q_166, gv.2.1]
      by_cases c4 : S.2 72 40 < 80
      rotate_left
      · rw [if_neg c4, bR, if_neg (by decide)]
      rw [if_pos c4, bR, if_pos rfl]
      by_cases c5 : p5 < 0
      · rw [if_pos c5]
      rw [if_neg c5]
      by_cases c6 : 200 < p5
      · rw [if_pos c6]
      rw [if_neg c6, gb.1]
      by_cases c7 : S.2 72 1 < p5
      · rw [if_pos c7]
      exact absurd ⟨c0, c1, c2, c3, c4, by omega, by omega⟩ hQ
    · rw [q_237]
      by_cases c4 : S.2 72 40 = 80
      · rw [if_pos c4]
      rw [if_neg c4]
      have go : (if p1 = 0 then (LQ (WK L xs) (ev (WK L xs) 199) 237 23 [some (vr 72), some (vi p1), some (vi p2), some (vi p3), some (vi p4), some (vi p5), none, none] [] S) else (if p1 = 2 then (LQ (WK L xs) (ev (WK L xs) 199) 237 23 [some (vr 72), some (vi p1), some (vi p2), some (vi p3), some (vi p4), some (vi p5), none, none] [] S) else (if p1 = 3 then (LQ (WK L xs) (ev (WK L xs) 199) 237 23 [some (vr 72), some (vi p1), some (vi p2), some (vi p3), some (vi p4), some (vi p5), none, none] [] S) else (some ((-1 : Int), S))))) = if p1 = 0 ∨ p1 = 2 ∨ p1 = 3 then (LQ (WK L xs) (ev (WK L xs) 199) 237 23 [some (vr 72), some (vi p1), some (vi p2), some (vi p3), some (vi p4), some (vi p5), none, none] [] S) else some (-1, S) := by
        by_cases q1 : p1 = 0
        · rw [if_pos q1, if_pos (Or.inl q1)]
        · rw [if_neg q1]
          by_cases q2 : p1 = 2
          · rw [if_pos q2, if_pos (Or.inr (Or.inl q2))]
          · rw [if_neg q2]
            by_cases q3 : p1 = 3
            · rw [if_pos q3, if_pos (Or.inr (Or.inr q3))]
            · rw [if_neg q3, if_neg (by first | decide | omega)]
      rw [go]
      by_cases c0 : p1 = 0 ∨ p1 = 2 ∨ p1 = 3
      rotate_left
      · rw [if_neg c0]
      rw [if_pos c0, q_237_23, m_isHead gp.1, bR]
      simp only [bi_0]
      by_cases c1 : 0 ≤ p2 ∧ p2 < S.2 72 4
      rotate_left
      · rw [if_pos c1]
      rw [if_neg (fun z => z c1), m_isSum, bR]
      simp only [bi_0]
      by_cases c2 : 0 ≤ p3 ∧ p3 ≤ 1000000000
      rotate_left
      · rw [if_pos c2]
      rw [if_neg (fun z => z c2), m_lies, bR]
      simp only [bi_0]
      by_cases c3 : 0 ≤ p4 ∧ p4 ≤ 9
      rotate_left
      · rw [if_pos c3]
      rw [if_neg (fun z => z c3), m_lies, bR]
      simp only [bi_0]
      by_cases c5 : 0 ≤ p5 ∧ p5 ≤ 200
      rotate_left
      · rw [if_pos c5]
      rw [if_neg (fun z => z c5)]
      by_cases c7 : S.2 72 1 < p5
      · rw [if_pos c7]
      exact absurd ⟨c0, c1, c2, by omega, by omega, c5, by omega⟩ hQ
  obtain ⟨c0, c1, c2, c3, c4, c5, c6⟩ := hQ
  obtain ⟨n, hn⟩ := Int.eq_ofNat_of_zero_le c5.1
  obtain ⟨nA, hA⟩ := Int.eq_ofNat_of_zero_le hn80.1
  subst hn
  have hT400 := gb.2.2.1
  have xgo : ev (WK L xs) 200 12 [vr 15, vi p1, vi p2, vi p3, vi p4, vi (n : Int)] S = if (n : Int) = 0 then (LQ (WK L xs) (ev (WK L xs) 199) 12 101 [some (vr 15), some (vi p1), some (vi p2), some (vi p3), some (vi p4), some (vi (n : Int)), none, none] [vi (0 : Int)] S) else (bindR (ev (WK L xs) 199 135 [vr 22, vr 16, vi (n : Int), vi (lv false)] S) (fun r9 S10 => (LQ (WK L xs) (ev (WK L xs) 199) 12 101 [some (vr 15), some (vi p1), some (vi p2), some (vi p3), some (vi p4), some (vi (n : Int)), none, none] [vi r9] S10))) := by
    have go : ev (WK L xs) 200 12 [vr 15, vi p1, vi p2, vi p3, vi p4, vi (n : Int)] S = (LQ (WK L xs) (ev (WK L xs) 199) 12 16 [some (vr 15), some (vi p1), some (vi p2), some (vi p3), some (vi p4), some (vi (n : Int)), none, none] [] S) := by
      rw [q_12]
      rcases c0 with q | q | q
      · rw [if_pos q]
      · rw [if_neg (by first | decide | omega), if_pos q]
      · rw [if_neg (by first | decide | omega), if_neg (by first | decide | omega), if_pos q]
    rw [go, q_12_16, x_isHead, bR, gp.2.1]
    simp only [bi_0]
    rw [if_neg (fun z => z c1), x_isSum, bR]
    simp only [bi_0]
    rw [if_neg (fun z => z c2), x_isYear, bR]
    simp only [bi_0]
    rw [if_neg (fun z => z c3), q_166, gv.2.1, if_pos c4, bR, if_pos rfl, if_neg (by first | decide | omega), if_neg (by first | decide | omega), gb.1, if_neg (by first | decide | omega)]
    rfl
  have mgo : ∀ W : AH, (∀ a, 72 ≤ a → a < 151 → W.2 a = S.2 a) → ev (WK L xs) 200 237 [vr 72, vi p1, vi p2, vi p3, vi p4, vi (n : Int)] W = bindR (ev (WK L xs) 199 204 [vr 72, vi (n : Int), vi 0] W) (fun r9 S10 => (if r9 < 0 then (some (r9, S10)) else (bindR (ev (WK L xs) 199 239 [vr 72, vi p1, vi p2, vi p3, vi p4] S10) (fun r11 S12 => (bindR (ev (WK L xs) 199 230 [vr 72, vi (w32 ((20 : Int) + r11))] S12) (fun r13 S14 => (some (r11, S14)))))))) := by
    intro W hW
    have w72 := hW 72 (by decide) (by decide)
    obtain ⟨rk, rv, rp⟩ := H.ref (W := W) (fun a q1 q2 _ => hW a q1 q2)
    have go : ev (WK L xs) 200 237 [vr 72, vi p1, vi p2, vi p3, vi p4, vi (n : Int)] W = (LQ (WK L xs) (ev (WK L xs) 199) 237 23 [some (vr 72), some (vi p1), some (vi p2), some (vi p3), some (vi p4), some (vi (n : Int)), none, none] [] W) := by
      rw [q_237, w72, if_neg (by first | decide | omega)]
      rcases c0 with q | q | q
      · rw [if_pos q]
      · rw [if_neg (by first | decide | omega), if_pos q]
      · rw [if_neg (by first | decide | omega), if_neg (by first | decide | omega), if_pos q]
    rw [go, q_237_23, m_isHead rp, bR, w72]
    simp only [bi_0]
    rw [if_neg (fun z => z c1), m_isSum, bR]
    simp only [bi_0]
    rw [if_neg (fun z => z c2), m_lies, bR]
    simp only [bi_0]
    rw [if_neg (fun z => z (by first | decide | omega)), m_lies, bR]
    simp only [bi_0]
    rw [if_neg (fun z => z c5), w72, if_neg (by first | decide | omega)]
  obtain ⟨t, ht⟩ : ∃ t : TB, t = fun k => if k < n then iand (S.2 73 k) 255 else 0 := ⟨_, rfl⟩
  have htb : ∀ k, 0 ≤ t k ∧ t k ≤ 255 := fun k => by
    rw [ht]
    show 0 ≤ (if k < n then iand (S.2 73 k) 255 else 0) ∧ (if k < n then iand (S.2 73 k) 255 else 0) ≤ 255
    by_cases q : k < n
    · rw [if_pos q]
      exact iand255 _
    · rw [if_neg q]
      decide
  have ht2 : ∀ k, k < n → iand (S.2 73 k) 255 = t k := fun k hk => by
    rw [ht]
    show _ = if k < n then iand (S.2 73 k) 255 else 0
    rw [if_pos hk]
  have H1 := H.tape0
  by_cases hz : n = 0
  · obtain ⟨B, Z, b1, b2, b3, b4, b5⟩ := vote_fin (L := L) (xs := xs) (A := wr S 15 4 0) (n := n) (tx := 27) (x := []) H hA (by first | decide | omega) c0 c1 c2 (y := p4) (by first | decide | omega) ⟨Nat.le_refl _, by show S.1.1 ≤ _; omega, by show S.1.2.1 ≤ _; omega⟩ (fun a q1 q2 => ⟨rfl, wr_c (by first | decide | omega)⟩) (fun a q1 q2 _ _ _ => wr_c q2) (fun j => by rw [wr_f]) (Or.inl ⟨rfl, rfl⟩) (fun W hW => (m_readText (L := L) (xs := xs) (d := 186) (S := W) (t := t) (n := n) (law := false) (by first | decide | omega) (fun k hk => by omega)).2 hz)
    refine ⟨(nA : Int), B, Z, ?_, ?_, b4, b5⟩
    · rw [xgo, if_pos (by first | decide | omega), q_12_101, if_pos rfl, if_pos (by first | decide | omega)]
      exact b1
    · rw [mgo B b2]
      exact b3
  rw [if_neg (by first | decide | omega)] at xgo
  have hR := x_readAll (L := L) (xs := xs) (d := 126) (S := S) (t := t) (b := 16) (len := 400) (n := n) (law := false) (by first | decide | omega) htb (by decide) rfl (by first | decide | omega) (fun k hk => by
    rw [show rdv (WK L xs) S 16 k = S.2 16 k from rfl, gb.2.2.2 k (by first | decide | omega)]
    exact ht2 k hk)
  revert hR
  cases hr : rdT t n false with
  | inl e =>
    rintro ⟨T, t1, t2⟩
    obtain ⟨M1, -⟩ := m_readText (L := L) (xs := xs) (d := 186) (S := wr T 15 4 0) (t := t) (n := n) (law := false) (by first | decide | omega) (fun k hk => by rw [wr_c (by decide), t2.2.1 73 (by decide) (by decide) (by decide)]; exact ht2 k hk)
    have hM := M1 (by first | decide | omega)
    rw [hr] at hM
    obtain ⟨U, u1, u2, u3, u4⟩ := hM
    have hlo : ∀ a, 72 ≤ a → a < 151 → (wr T 15 4 0).2 a = S.2 a := fun a q1 q2 => by rw [wr_c (by first | decide | omega), t2.2.1 a (by first | decide | omega) (by first | decide | omega) (by first | decide | omega)]
    refine ⟨e, wr T 15 4 0, U, ?_, ?_, ?_, ?_⟩
    · rw [xgo, show ev (WK L xs) 199 135 [vr 22, vr 16, vi (n : Int), vi (lv false)] S = some (e, T) from t1, bR, q_12_101, if_neg (by first | decide | omega)]
    · rw [mgo _ hlo, show ev (WK L xs) 199 204 [vr 72, vi (n : Int), vi 0] (wr T 15 4 0) = some (e, U) from u1, bR, if_pos u4]
    · have uT : U.1 = S.1 := by
        rw [u2.1]
        exact t2.1
      refine H1.nscr ⟨by rw [uT]; exact Nat.le_refl _, fun a q1 q2 => ⟨by rw [uT]; rfl, ?_⟩⟩ (fun a k q1 q2 => ?_)
      · rw [u2.2.1 a (by first | decide | omega) (by first | decide | omega), wr_c (by first | decide | omega), t2.2.1 a (by first | decide | omega) (by first | decide | omega) (by first | decide | omega), wr_c (by first | decide | omega), wr_c (by first | decide | omega)]
      · unfold nscr scr at q2
        by_cases e72 : a = 72
        · subst e72
          rw [wr_f]
          by_cases ek : k = 1
          · rw [if_pos ek, ek, u3]
          · rw [if_neg ek, u2.2.2 k ek (by first | decide | omega) (by first | decide | omega), wr_c (by decide), t2.2.1 72 (by decide) (by decide) (by decide), wr_c (by decide)]
        · rw [u2.2.1 a e72 (by first | decide | omega), wr_c e72]
          by_cases e15 : a = 15
          · subst e15
            rw [wr_f, wr_f, t2.2.1 15 (by decide) (by decide) (by decide)]
          · rw [wr_c e15, wr_c e15, t2.2.1 a (by first | decide | omega) (by first | decide | omega) (by first | decide | omega)]
    · exact Gw.of (u2.1.trans t2.1)
  | inr x =>
    rintro ⟨T, t1, t2, t3, t4, t5⟩
    have T1 : (wr T 15 4 0).1 = S.1 := t2.1
    have c0' : ∀ a, a ≠ 15 → a ≠ 22 → a ≠ 23 → a ≠ 24 → (wr T 15 4 0).2 a = S.2 a := fun a q1 q2 q3 q4 => by rw [wr_c q1, t2.2.1 a q2 q3 q4]
    have f22 : ∀ k, (wr T 15 4 0).2 22 k = T.2 22 k := fun k => by rw [wr_c (by decide)]
    obtain ⟨A, a1, a2, a3, a4, ⟨b1, b2, b3, b4⟩, ⟨g1, g2, g3⟩, a6, a7⟩ := x_textRead (L := L) (xs := xs) (d := 197) (S := wr T 15 4 0) (n := n) (x := x) (by rw [T1]; exact i1) (by first | decide | omega) (by rw [f22, t4]; rfl) (by rw [f22, t5]) ⟨by rw [f22, t3.1], t3.2.1, fun j q hq => by rw [wr_c (by decide), wr_c (by decide)]; exact t3.2.2 j q hq⟩
    rw [T1] at a1 a2 a3 a4 b1 b2 b3 b4 g1 g2 g3 a6 a7
    have hx16 := t3.2.1
    obtain ⟨B, Z, z1, z2, z3, z4, z5⟩ := vote_fin (L := L) (xs := xs) (A := A) (n := n) (tx := S.1.1) (x := x) H hA (by first | decide | omega) c0 c1 c2 (y := p4) (by first | decide | omega) ⟨by omega, by omega, by omega⟩ (fun a q1 q2 => ⟨by rw [(a4 a q2).1], by rw [(a4 a q2).2, c0' a (by first | decide | omega) (by first | decide | omega) (by first | decide | omega) (by first | decide | omega)]⟩) (fun a q1 q2 q3 q4 q5 => by rw [(a4 a (by first | decide | omega)).2, c0' a q2 q3 q4 q5]) (fun j => by rw [(a4 15 (by first | decide | omega)).2, wr_f, t2.2.1 15 (by decide) (by decide) (by decide)]) (Or.inr ⟨⟨i1, by omega, b1⟩, S.1.1 + 1, S.1.1 + 2, S.1.1 + 3, n, g1, g2, g3, ⟨by omega, by omega, b2⟩, ⟨by omega, by omega, b3⟩, ⟨by omega, by omega, b4⟩, by omega, by
        have e : byt A.2 (S.1.1 + 1) = t := by
          funext k
          unfold byt
          rw [a6 k, ht, c0' 16 (by decide) (by decide) (by decide) (by decide)]
          show iand (if k < n then S.2 16 k else 0) 255 = if k < n then iand (S.2 73 k) 255 else 0
          by_cases q : k < n
          · rw [if_pos q, if_pos q, gb.2.2.2 k (by first | decide | omega)]
          · rw [if_neg q, if_neg q]
            decide
        rw [e]
        exact hr, fun j q hq => by
        have hj := (List.getElem?_eq_some_iff.mp hq).1
        rw [(a7 j hj).1, (a7 j hj).2, wr_c (by decide), wr_c (by decide)]
        exact t3.2.2 j q hq⟩) (fun W hW => by
        have hM := (m_readText (L := L) (xs := xs) (d := 186) (S := W) (t := t) (n := n) (law := false) (by first | decide | omega) (fun k hk => by rw [hW]; exact ht2 k hk)).1 (by first | decide | omega)
        rw [hr] at hM
        exact hM)
    refine ⟨(nA : Int), B, Z, ?_, ?_, z4, z5⟩
    · rw [xgo, show ev (WK L xs) 199 135 [vr 22, vr 16, vi (n : Int), vi (lv false)] S = some (0, T) from t1, bR, q_12_101, if_pos rfl, if_neg (by first | decide | omega), show ev (WK L xs) 199 154 [vr 22] (wr T 15 4 0) = some ((S.1.1 : Int), A) from a1, bR, Int.toNat_natCast]
      exact z1
    · rw [mgo B z2]
      exact z3
end
