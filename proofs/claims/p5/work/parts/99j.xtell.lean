/-! the class tells its reader of a claim -/
section
variable {L : Nat} {xs : Nat → Int} {d : Nat} {S S' T U W : AH} {h h' : Nat → Nat → Int}
theorem x_rank (hP : GP S.2) {sg : Nat} (hs : sg < 65536) : ev (WK L xs) (d + 1) 131 [vr 17, vi (sg : Int)] S = some (rkF S.2 sg (S.2 72 5).toNat, S) := by
  have h16 := hP.1.2.1
  have eh := hP.2.2.1
  have key : ∀ (m k : Nat), k + m = (S.2 72 5).toNat → LQ (WK L xs) (ev (WK L xs) d) 131 4 [some (vr 17), some (vi (sg : Int)), some (vi (rkF S.2 sg k)), some (vi (k : Int))] [] S = some (rkF S.2 sg (S.2 72 5).toNat, S) := by
    intro m
    induction m with
    | zero =>
      intro k hk
      rw [q_131_4, eh, if_neg (by first | decide | omega), show k = (S.2 72 5).toNat by omega]
    | succ m ih =>
      intro k hk
      have hi := ih (k + 1) (by first | decide | omega)
      have e1 : w32 ((k : Int) + 1) = ((k + 1 : Nat) : Int) := by
        rw [w32e (by first | decide | omega) (by first | decide | omega)]
        rfl
      have hk16 : k < 16 := by omega
      obtain ⟨-, z2⟩ := hP.2.2.2.2.1 k (by first | decide | omega)
      rw [q_131_4, eh, if_pos (by first | decide | omega), bit16 hs hk16, Int.toNat_natCast, e1, z2, ← hi]
      show _ = LQ (WK L xs) (ev (WK L xs) d) 131 4 [some (vr 17), some (vi (sg : Int)), some (vi (if sg.testBit k then max (rkF S.2 sg k) (S.2 76 k) else rkF S.2 sg k)), some (vi ((k + 1 : Nat) : Int))] [] S
      by_cases q : sg.testBit k = true
      · rw [if_pos q, if_pos q, if_neg (show ¬ (1 : Int) = 0 by decide), if_pos (show (0 : Int) ≤ (k : Int) ∧ (k : Int) < 16 by omega)]
      · rw [if_neg q, if_neg q, if_pos (show (0 : Int) = 0 from rfl)]
  rw [q_131]
  exact key (S.2 72 5).toNat 0 (by first | decide | omega)
theorem x_paidHd (gk : GK S) {c : Nat} (_hc : (c : Int) < S.2 72 52) : ev (WK L xs) (d + 3) 83 [vr 43, vi (S.2 108 c), vi (yr (S.2 72 2))] S = some (pdH S.2 c, S) := by
  obtain ⟨hn, hn3⟩ := gk.1.nC
  have key : ∀ (m k : Nat), k + m = nClaims S.2 → LQ (WK L xs) (ev (WK L xs) (d + 2)) 83 5 [some (vr 43), some (vi (S.2 108 c)), some (vi (yr (S.2 72 2))), some (vi (sm (pdT S.2 c) k)), some (vi (k : Int)), none] [] S = some (sm (pdT S.2 c) (nClaims S.2), S) := by
    intro m
    induction m with
    | zero =>
      intro k hk
      rw [q_83_5, gk.2.1, hn, if_neg (by first | decide | omega), show k = nClaims S.2 by omega]
    | succ m ih =>
      intro k hk
      have hkl : (k : Int) < S.2 72 52 := by omega
      have hi := ih (k + 1) (by first | decide | omega)
      have e1 : w32 ((k : Int) + 1) = ((k + 1 : Nat) : Int) := by
        rw [w32e (by first | decide | omega) (by first | decide | omega)]
        rfl
      have hb := sm_bd (f := pdT S.2 c) (M := 1) (n := k) (fun j _ => pdT_bd _ _ _)
      obtain ⟨b1, b2, b3, b4, b5, b6, b7, b8, b9, -⟩ := gk.2.2.2.2.1 k hkl
      have h5 := b1.1
      rw [sm_su] at hi
      rw [q_83_5, gk.2.1, hn, if_pos (by first | decide | omega), x_cl gk hkl, bR, Int.toNat_natCast, if_neg (by first | decide | omega), g14 b1, k12 b1, rdvD h5, b2, k12a b1, x_paidIn b1, bR, b9, e1, w32e (x := sm (pdT S.2 c) k + 1) (by first | decide | omega) (by first | decide | omega)]
      simp only [bi_0]
      by_cases q1 : S.2 108 k = S.2 108 c
      · rw [if_pos q1]
        by_cases q2 : S.2 115 k ≠ -1 ∧ yr (S.2 115 k) = yr (S.2 72 2)
        · have : pdT S.2 c k = 1 := by
            unfold pdT
            rw [if_pos ⟨q1, decide_eq_true q2⟩]
          rw [if_neg (fun z => z q2), ← hi, this]
        · have : pdT S.2 c k = 0 := by
            unfold pdT
            rw [if_neg (fun z => q2 (of_decide_eq_true z.2))]
          rw [if_pos q2, ← hi, this, Int.add_zero]
      · have : pdT S.2 c k = 0 := by
          unfold pdT
          rw [if_neg (fun z => q1 z.1)]
        rw [if_neg q1, ← hi, this, Int.add_zero]
  rw [q_83]
  exact key (nClaims S.2) 0 (by first | decide | omega)
theorem x_tellC {o : Nat} (ho : isO S o 12 15) (p2 p3 : Int) (ht : S.2 o 5 = 0 ∨ S.2 o 5 = 1) : ∃ U, ev (WK L xs) (d + 1) 155 [vr 22, vr o, vl p2, vi p3] S = some (0, U) ∧ U.1 = S.1 ∧ (∀ a, a ≠ 22 → a ≠ 26 → U.2 a = S.2 a) ∧ U.2 22 11 = p2 ∧ U.2 22 12 = S.2 o 5 ∧ (U.2 26 0 = S.2 o 3 ∧ U.2 26 2 = S.2 o 1 ∧ U.2 26 3 = S.2 o 2 ∧ U.2 26 4 = p3) := by
  have h5 := ho.1
  have n22 : o ≠ 22 := by omega
  have n26 : o ≠ 26 := by omega
  have g0 : ∀ (X : AH) (r : Rs), X.1 = S.1 → gd (Nat.beq (shp (WK L xs) X o).1 12) r = r := fun X r e => k12 (S := X) (by unfold isO; rw [e]; exact ho) r
  have r0 : ∀ (X : AH) (k : Nat), X.2 o = S.2 o → rdv (WK L xs) X o k = S.2 o k := fun X k e => by rw [rdvD h5, e]
  have f0 : (0 : Int) ≤ 0 ∧ (0 : Int) < 7 := by decide
  have f2 : (0 : Int) ≤ 2 ∧ (2 : Int) < 7 := by decide
  have f3 : (0 : Int) ≤ 3 ∧ (3 : Int) < 7 := by decide
  have f4 : (0 : Int) ≤ 4 ∧ (4 : Int) < 7 := by decide
  refine ⟨wr (wr (wr (wr (wr (wr S 22 11 p2) 22 12 (S.2 o 5)) 26 0 (S.2 o 3)) 26 2 (S.2 o 1)) 26 3 (S.2 o 2)) 26 4 p3, ?_, rfl, fun a q1 q2 => ?_, ?_, ?_, ?_, ?_, ?_, ?_⟩
  · rw [q_155, r0 (wr S 22 11 p2) 5 (by rw [wr_c n22]), r0 (wr (wr S 22 11 p2) 22 12 (S.2 o 5)) 3 (by rw [wr_c n22, wr_c n22]), r0 (wr (wr (wr S 22 11 p2) 22 12 (S.2 o 5)) 26 0 (S.2 o 3)) 1 (by rw [wr_c n26, wr_c n22, wr_c n22]), r0 (wr (wr (wr (wr S 22 11 p2) 22 12 (S.2 o 5)) 26 0 (S.2 o 3)) 26 2 (S.2 o 1)) 2 (by rw [wr_c n26, wr_c n26, wr_c n22, wr_c n22]), g0 (wr S 22 11 p2) _ rfl, if_pos ht, g0 (wr (wr S 22 11 p2) 22 12 (S.2 o 5)) _ rfl, if_pos f0, g0 (wr (wr (wr S 22 11 p2) 22 12 (S.2 o 5)) 26 0 (S.2 o 3)) _ rfl, if_pos f2, g0 (wr (wr (wr (wr S 22 11 p2) 22 12 (S.2 o 5)) 26 0 (S.2 o 3)) 26 2 (S.2 o 1)) _ rfl, if_pos f3, if_pos f4]
  · rw [wr_c q2, wr_c q2, wr_c q2, wr_c q2, wr_c q1, wr_c q1]
  · rw [wr_c (by decide), wr_c (by decide), wr_c (by decide), wr_c (by decide), wr_f, if_neg (by decide), wr_f, if_pos rfl]
  · rw [wr_c (by decide), wr_c (by decide), wr_c (by decide), wr_c (by decide), wr_f, if_pos rfl]
  · rw [wr_f, if_neg (by decide), wr_f, if_neg (by decide), wr_f, if_neg (by decide), wr_f, if_pos rfl]
  · rw [wr_f, if_neg (by decide), wr_f, if_neg (by decide), wr_f, if_pos rfl]
  · rw [wr_f, if_neg (by decide), wr_f, if_pos rfl]
  · rw [wr_f, if_pos rfl]
end
/-- the class has weighed, and told its reader of the claim c -/
noncomputable def Tld (S T : AH) (c : Nat) : Prop := T.1 = S.1 ∧ (∀ a, a ≠ 22 → a ≠ 26 → a ≠ 35 → T.2 a = S.2 a) ∧ (∀ i : Nat, (i : Int) < S.2 72 36 → ∃ z : Nat, T.2 35 i = z ∧ z < 65536 ∧ ∀ j, j < 16 → z.testBit j = mkL S.2 i j) ∧ (T.2 26 0 = S.2 111 c ∧ T.2 26 1 = Int.tmod (S.2 72 2) 360 ∧ T.2 26 2 = S.2 109 c ∧ T.2 26 3 = S.2 110 c ∧ T.2 26 4 = rkC S.2 c ∧ T.2 26 5 = pdH S.2 c) ∧ T.2 22 12 = S.2 113 c ∧ ∀ N : Int, 0 ≤ N → N ≤ 39 → (lcmp (land (lushr (T.2 22 11) N) 1) 0 = 0 ↔ udC S.2 c N = false)
section
variable {L : Nat} {xs : Nat → Int} {d : Nat} {S S' T U W : AH} {c : Nat}
theorem Tld.wh (p : Tld S T c) : Wh S.2 T.2 := ⟨fun a q1 _ _ _ _ => p.2.1 a (by first | decide | omega) (by first | decide | omega) (by first | decide | omega), fun k _ _ => by rw [p.2.1 72 (by decide) (by decide) (by decide)]⟩
theorem Tld.hi (p : Tld S T c) : ∀ a, 36 ≤ a → T.2 a = S.2 a := fun a q => p.2.1 a (by first | decide | omega) (by first | decide | omega) (by first | decide | omega)
theorem Tld.inv (p : Tld S T c) (H : Inv S) : Inv T := H.scr ⟨by rw [p.1]; exact Nat.le_refl _, fun a q1 _ => ⟨by rw [p.1], p.hi a (by first | decide | omega)⟩⟩ (fun a k q1 q2 => by
  unfold scr at q2
  rw [p.2.1 a (by first | decide | omega) (by first | decide | omega) (by first | decide | omega)])
theorem Wh.tl {h h' : Nat → Nat → Int} (p : Wh h h') (c : Nat) : mkL h' = mkL h ∧ rkC h' c = rkC h c ∧ pdH h' c = pdH h c ∧ udC h' c = udC h c := by
  refine ⟨p.mk, (p.le c 0).2.2, ?_, (p.le c 0).2.1⟩
  have := congrFun (p.le c 0).1 113
  exact this
theorem Tld.re (p : Tld S T c) : Tld T T c := by
  obtain ⟨e1, e2, e3, e4⟩ := p.wh.tl c
  refine ⟨rfl, fun _ _ _ _ => rfl, fun i hi => ?_, ?_, ?_, fun N q1 q2 => ?_⟩
  · rw [e1]
    exact p.2.2.1 i (by rw [← p.hi 72 (by decide)]; exact hi)
  · rw [e2, e3, p.hi 111 (by decide), p.hi 72 (by decide), p.hi 109 (by decide), p.hi 110 (by decide)]
    exact p.2.2.2.1
  · rw [p.hi 113 (by decide)]
    exact p.2.2.2.2.1
  · rw [e4]
    exact p.2.2.2.2.2 N q1 q2
theorem Tld.tr (p : Tld S T c) (q : Tld T U c) : Tld S U c := by
  obtain ⟨e1, e2, e3, e4⟩ := p.wh.tl c
  refine ⟨q.1.trans p.1, fun a z1 z2 z3 => (q.2.1 a z1 z2 z3).trans (p.2.1 a z1 z2 z3), fun i hi => ?_, ?_, ?_, fun N q1 q2 => ?_⟩
  · rw [← e1]
    exact q.2.2.1 i (by rw [p.hi 72 (by decide)]; exact hi)
  · have := q.2.2.2.1
    rw [e2, e3, p.hi 111 (by decide), p.hi 72 (by decide), p.hi 109 (by decide), p.hi 110 (by decide)] at this
    exact this
  · rw [q.2.2.2.2.1, p.hi 113 (by decide)]
  · rw [← e4]
    exact q.2.2.2.2.2 N q1 q2
theorem Tld.qf (p : Tld S T c) (q : Qf T U) : Tld S U c := by
  refine ⟨q.1.trans p.1, fun a z1 z2 z3 => (q.2.1 a z1).trans (p.2.1 a z1 z2 z3), fun i hi => ?_, ?_, ?_, fun N q1 q2 => ?_⟩
  · rw [q.2.1 35 (by decide)]
    exact p.2.2.1 i hi
  · rw [q.2.1 26 (by decide)]
    exact p.2.2.2.1
  · rw [q.2.2 12 (by decide)]
    exact p.2.2.2.2.1
  · rw [q.2.2 11 (by decide)]
    exact p.2.2.2.2.2 N q1 q2
theorem Tld.wl (p : Tld S T c) (l : Int) : Tld S (wr T 26 6 l) c := by
  refine ⟨p.1, fun a z1 z2 z3 => (wr_c z2).trans (p.2.1 a z1 z2 z3), fun i hi => ?_, ?_, ?_, fun N q1 q2 => ?_⟩
  · rw [wr_c (by decide)]
    exact p.2.2.1 i hi
  · rw [wr_f, if_neg (by decide), wr_f, if_neg (by decide), wr_f, if_neg (by decide), wr_f, if_neg (by decide), wr_f, if_neg (by decide), wr_f, if_neg (by decide)]
    exact p.2.2.2.1
  · rw [wr_c (by decide)]
    exact p.2.2.2.2.1
  · rw [wr_c (by decide)]
    exact p.2.2.2.2.2 N q1 q2
theorem Tld.fa (p : Tld T T c) {l : Int} (h6 : T.2 26 6 = l) : FA T (leC T.2 c l) (udC T.2 c) := by
  obtain ⟨a0, a1, a2, a3, a4, a5⟩ := p.2.2.2.1
  refine ⟨⟨?_, ?_, ?_, ?_, ?_, ?_, ?_⟩, p.2.2.2.2.2⟩
  · rw [a0]
    rfl
  · rw [a1]
    rfl
  · rw [a2]
    rfl
  · rw [a3]
    rfl
  · rw [a4]
    rfl
  · rw [a5]
    rfl
  · rw [h6]
    rfl
/-- bits of the heads above -/
theorem up_bits (gp : GP S.2) {i : Nat} (hi : (i : Int) < S.2 72 4) (N : Int) (h0 : 0 ≤ N) (h39 : N ≤ 39) : lcmp (land (lushr (S.2 18 i) N) 1) 0 = 0 ↔ (decide (N < S.2 72 4) && uN S.2 (i : Int) N) = false := by
  obtain ⟨p1, p2, p3⟩ := gp.2.2.2.1 i hi
  have h40 := gp.1.1
  obtain ⟨n, hn⟩ := Int.eq_ofNat_of_zero_le h0
  subst hn
  rw [lc_eq, lbit _ _ p1 (by first | decide | omega) (by first | decide | omega) (by first | decide | omega), Int.toNat_natCast, p3 n]
  unfold uN
  rw [Int.toNat_natCast, Int.toNat_natCast]
  by_cases c : und (S.2 74) i i n = true
  · have := und_le gp.1.up i i n (by first | decide | omega) c
    rw [if_pos c, c, decide_eq_true (show (n : Int) < S.2 72 4 by omega)]
    decide
  · rw [if_neg c, nf c, Bool.and_false]
    decide
theorem x_tell (H : Inv S) (hB : B35 S T (S.2 72 2) (skd S.2 (S.2 72 2)) (S.2 72 36).toNat) (hc : (c : Int) < S.2 72 52) : ∃ U, ev (WK L xs) (d + 5) 29 [vr 15, vr (clA S c)] T = some (0, U) ∧ Tld S U c := by
  have cT : ∀ a, a ≠ 35 → T.2 a = S.2 a := hB.2.1
  have HT : Inv T := H.scr ⟨by rw [hB.1]; exact Nat.le_refl _, fun a q1 _ => ⟨by rw [hB.1], cT a (by first | decide | omega)⟩⟩ (fun a k q1 q2 => by rw [cT a (fun e => q2 (by unfold scr; omega))])
  have eT : clA T c = clA S c := by unfold clA; rw [cT 44 (by decide)]
  have hcT : (c : Int) < T.2 72 52 := by rw [cT 72 (by decide)]; exact hc
  obtain ⟨a1, a2, a3, a4, a5, a6, a7, a8, -⟩ := HT.gk.2.2.2.2.1 c hcT
  obtain ⟨-, r2, -, -, -, r6, -, r8, -⟩ := HT.gk.1.2.2.2.1 c hcT
  rw [eT] at a1 a2 a3 a4 a5 a6 a7 a8
  obtain ⟨sg, hsg⟩ := Int.eq_ofNat_of_zero_le r6.1
  obtain ⟨hd, hhd⟩ := Int.eq_ofNat_of_zero_le r2.1
  obtain ⟨A, b1, b2, b3, b4, b5, b6, b7, b8, b9⟩ := x_tellC (L := L) (xs := xs) (d := d + 3) a1 (T.2 18 hd) (rkF T.2 sg (T.2 72 5).toNat) (by rw [a7]; exact r8)
  have HA : Inv A := HT.scr ⟨by rw [b2]; exact Nat.le_refl _, fun a q1 _ => ⟨by rw [b2], b3 a (by first | decide | omega) (by first | decide | omega)⟩⟩ (fun a k q1 q2 => by
    unfold scr at q2
    rw [b3 a (by first | decide | omega) (by first | decide | omega)])
  have a1A : isO A (clA S c) 12 15 := a1.eq b2
  have eA : A.2 (clA S c) = T.2 (clA S c) := b3 _ (by have := a1.1; omega) (by have := a1.1; omega)
  have hcA : (c : Int) < A.2 72 52 := by rw [b3 72 (by decide) (by decide)]; exact hcT
  have hpd := x_paidHd (L := L) (xs := xs) (d := d + 1) HA.gk hcA
  have e72 : A.2 72 = S.2 72 := (b3 72 (by decide) (by decide)).trans (cT 72 (by decide))
  have whA : Wh S.2 A.2 := ⟨fun a q1 _ _ _ _ => (b3 a (by first | decide | omega) (by first | decide | omega)).trans (cT a (by first | decide | omega)), fun k _ _ => by rw [e72]⟩
  obtain ⟨w1, w2, w3, w4⟩ := whA.tl c
  rw [w3] at hpd
  have hn := H.gt.1
  refine ⟨wr (wr A 26 1 (Int.tmod (S.2 72 2) 360)) 26 5 (pdH S.2 c), ?_, b2.trans hB.1, fun a z1 z2 z3 => ?_, fun i hi => ?_, ⟨?_, ?_, ?_, ?_, ?_, ?_⟩, ?_, fun N q1 q2 => ?_⟩
  · have A15 : A.2 15 0 = S.2 72 2 := by rw [b3 15 (by decide) (by decide), cT 15 (by decide), hn]
    rw [q_29, k12 a1, rdvD a1.1, a3, x_headsAbove HT.gp, if_pos r2, hhd, Int.toNat_natCast, bR, k12 a1, rdvD a1.1, a8, hsg, x_rank HT.gp (by first | decide | omega), bR, b1, bR, k12 a1A, A15, x_yearOf, bR, rdvD a1.1, eA, a2, show T.2 108 c = A.2 108 c from (by rw [b3 108 (by decide) (by decide)]), show yr (S.2 72 2) = yr (A.2 72 2) by rw [e72], show ev (WK L xs) (d + 4) 83 [vr 43, vi (A.2 108 c), vi (yr (A.2 72 2))] A = _ from hpd, bR, q_156, if_pos (by decide), if_pos (by decide), bR]
  · rw [wr_c z2, wr_c z2, b3 a z1 z2, cT a z3]
  · rw [wr_c (by decide), wr_c (by decide), b3 35 (by decide) (by decide)]
    exact hB.2.2 i (by first | decide | omega)
  · rw [wr_f, if_neg (by decide), wr_f, if_neg (by decide), b6, a5, cT 111 (by decide)]
  · rw [wr_f, if_neg (by decide), wr_f, if_pos rfl]
  · rw [wr_f, if_neg (by decide), wr_f, if_neg (by decide), b7, a3, cT 109 (by decide)]
  · rw [wr_f, if_neg (by decide), wr_f, if_neg (by decide), b8, a4, cT 110 (by decide)]
  · rw [wr_f, if_neg (by decide), wr_f, if_neg (by decide), b9]
    have wT : Wh S.2 T.2 := ⟨fun a q1 _ _ _ _ => cT a (by first | decide | omega), fun k _ _ => by rw [cT 72 (by decide)]⟩
    have e : rkC T.2 c = rkC S.2 c := (wT.tl c).2.1
    rw [← e]
    unfold rkC
    rw [hsg, Int.toNat_natCast]
  · rw [wr_f, if_pos rfl]
  · rw [wr_c (by decide), wr_c (by decide), b5, a7, cT 113 (by decide)]
  · rw [wr_c (by decide), wr_c (by decide), b4]
    have := up_bits HT.gp (i := hd) (by first | decide | omega) N q1 q2
    have e : udC S.2 c N = (decide (N < T.2 72 4) && uN T.2 (hd : Int) N) := by
      unfold udC uN
      rw [cT 72 (by decide), cT 74 (by decide), ← hhd, cT 109 (by decide)]
    rw [e]
    exact this
end
