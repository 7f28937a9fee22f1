section
-- 99j.xtell
/-! the class tells its reader of a claim -/
section
variable {L : Nat} {xs : Nat → Int} {d : Nat} {S S' T U W : AH} {h h' : Nat → Nat → Int}
theorem x_rank (hP : GP S.2) {sg : Nat} (hs : sg < 65536) : ev (WK L xs) (d + 1) 131 [vr 17, vi (sg : Int)] S = some (rkF S.2 sg (S.2 72 5).toNat, S) := by
  have h16 := hP.1.2.1
  have eh := hP.2.2.1
  have key : ∀ (m k : Nat), k + m = (S.2 72 5).toNat → LQ (WK L xs) (ev (WK L xs) d) 131 4 [some (vr 17), some (vi (sg : Int)), some (vi (rkF S.2 sg k)), some (vi (k : Int))] [] S = some (rkF S.2 sg (S.2 72 5).toNat, S) := by
    intro m
    induction m with
    | zero =>
      intro k hk
      rw [q_131_4, eh, if_neg (by first | decide | omega), show k = (S.2 72 5).toNat by omega]
    | succ m ih =>
      intro k hk
      have hi := ih (k + 1) (by first | decide | omega)
      have e1 : w32 ((k : Int) + 1) = ((k + 1 : Nat) : Int) := by
        rw [w32e (by first | decide | omega) (by first | decide | omega)]
        rfl
      have hk16 : k < 16 := by omega
      obtain ⟨-, z2⟩ := hP.2.2.2.2.1 k (by first | decide | omega)
      rw [q_131_4, eh, if_pos (by first | decide | omega), bit16 hs hk16, Int.toNat_natCast, e1, z2, ← hi]
      show _ = LQ (WK L xs) (ev (WK L xs) d) 131 4 [some (vr 17), some (vi (sg : Int)), some (vi (if sg.testBit k then max (rkF S.2 sg k) (S.2 76 k) else rkF S.2 sg k)), some (vi ((k + 1 : Nat) : Int))] [] S
      by_cases q : sg.testBit k = true
      · rw [if_pos q, if_pos q, if_neg (show ¬ (1 : Int) = 0 by decide), if_pos (show (0 : Int) ≤ (k : Int) ∧ (k : Int) < 16 by omega)]
      · rw [if_neg q, if_neg q, if_pos (show (0 : Int) = 0 from rfl)]
  rw [q_131]
  exact key (S.2 72 5).toNat 0 (by first | decide | omega)
theorem x_paidHd (gk : GK S) {c : Nat} (_hc : (c : Int) < S.2 72 52) : ev (WK L xs) (d + 3) 83 [vr 43, vi (S.2 108 c), vi (yr (S.2 72 2))] S = some (pdH S.2 c, S) := by
  obtain ⟨hn, hn3⟩ := gk.1.nC
  have key : ∀ (m k : Nat), k + m = nClaims S.2 → LQ (WK L xs) (ev (WK L xs) (d + 2)) 83 5 [some (vr 43), some (vi (S.2 108 c)), some (vi (yr (S.2 72 2))), some (vi (sm (pdT S.2 c) k)), some (vi (k : Int)), none] [] S = some (sm (pdT S.2 c) (nClaims S.2), S) := by
    intro m
    induction m with
    | zero =>
      intro k hk
      rw [q_83_5, gk.2.1, hn, if_neg (by first | decide | omega), show k = nClaims S.2 by omega]
    | succ m ih =>
      intro k hk
      have hkl : (k : Int) < S.2 72 52 := by omega
      have hi := ih (k + 1) (by first | decide | omega)
      have e1 : w32 ((k : Int) + 1) = ((k + 1 : Nat) : Int) := by
        rw [w32e (by first | decide | omega) (by first | decide | omega)]
        rfl
      have hb := sm_bd (f := pdT S.2 c) (M := 1) (n := k) (fun j _ => pdT_bd _ _ _)
      obtain ⟨b1, b2, b3, b4, b5, b6, b7, b8, b9, -⟩ := gk.2.2.2.2.1 k hkl
      have h5 := b1.1
      rw [sm_su] at hi
      rw [q_83_5, gk.2.1, hn, if_pos (by first | decide | omega), x_cl gk hkl, bR, Int.toNat_natCast, if_neg (by first | decide | omega), g14 b1, k12 b1, rdvD h5, b2, k12a b1, x_paidIn b1, bR, b9, e1, w32e (x := sm (pdT S.2 c) k + 1) (by first | decide | omega) (by first | decide | omega)]
      simp only [bi_0]
      by_cases q1 : S.2 108 k = S.2 108 c
      · rw [if_pos q1]
        by_cases q2 : S.2 115 k ≠ -1 ∧ yr (S.2 115 k) = yr (S.2 72 2)
        · have : pdT S.2 c k = 1 := by
            unfold pdT
            rw [if_pos ⟨q1, decide_eq_true q2⟩]
          rw [if_neg (fun z => z q2), ← hi, this]
        · have : pdT S.2 c k = 0 := by
            unfold pdT
            rw [if_neg (fun z => q2 (of_decide_eq_true z.2))]
          rw [if_pos q2, ← hi, this, Int.add_zero]
      · have : pdT S.2 c k = 0 := by
          unfold pdT
          rw [if_neg (fun z => q1 z.1)]
        rw [if_neg q1, ← hi, this, Int.add_zero]
  rw [q_83]
  exact key (nClaims S.2) 0 (by first | decide | omega)
theorem x_tellC {o : Nat} (ho : isO S o 12 15) (p2 p3 : Int) (ht : S.2 o 5 = 0 ∨ S.2 o 5 = 1) : ∃ U, ev (WK L xs) (d + 1) 155 [vr 22, vr o, vl p2, vi p3] S = some (0, U) ∧ U.1 = S.1 ∧ (∀ a, a ≠ 22 → a ≠ 26 → U.2 a = S.2 a) ∧ U.2 22 11 = p2 ∧ U.2 22 12 = S.2 o 5 ∧ (U.2 26 0 = S.2 o 3 ∧ U.2 26 2 = S.2 o 1 ∧ U.2 26 3 = S.2 o 2 ∧ U.2 26 4 = p3) := by
  have h5 := ho.1
  have n22 : o ≠ 22 := by omega
  have n26 : o ≠ 26 := by omega
  have g0 : ∀ (X : AH) (r : Rs), X.1 = S.1 → gd (Nat.beq (shp (WK L xs) X o).1 12) r = r := fun X r e => k12 (S := X) (by unfold isO; rw [e]; exact ho) r
  have r0 : ∀ (X : AH) (k : Nat), X.2 o = S.2 o → rdv (WK L xs) X o k = S.2 o k := fun X k e => by rw [rdvD h5, e]
  have f0 : (0 : Int) ≤ 0 ∧ (0 : Int) < 7 := by decide
  have f2 : (0 : Int) ≤ 2 ∧ (2 : Int) < 7 := by decide
  have f3 : (0 : Int) ≤ 3 ∧ (3 : Int) < 7 := by decide
  have f4 : (0 : Int) ≤ 4 ∧ (4 : Int) < 7 := by decide
  refine ⟨wr (wr (wr (wr (wr (wr S 22 11 p2) 22 12 (S.2 o 5)) 26 0 (S.2 o 3)) 26 2 (S.2 o 1)) 26 3 (S.2 o 2)) 26 4 p3, ?_, rfl, fun a q1 q2 => ?_, ?_, ?_, ?_, ?_, ?_, ?_⟩
  · rw [q_155, r0 (wr S 22 11 p2) 5 (by rw [wr_c n22]), r0 (wr (wr S 22 11 p2) 22 12 (S.2 o 5)) 3 (by rw [wr_c n22, wr_c n22]), r0 (wr (wr (wr S 22 11 p2) 22 12 (S.2 o 5)) 26 0 (S.2 o 3)) 1 (by rw [wr_c n26, wr_c n22, wr_c n22]), r0 (wr (wr (wr (wr S 22 11 p2) 22 12 (S.2 o 5)) 26 0 (S.2 o 3)) 26 2 (S.2 o 1)) 2 (by rw [wr_c n26, wr_c n26, wr_c n22, wr_c n22]), g0 (wr S 22 11 p2) _ rfl, if_pos ht, g0 (wr (wr S 22 11 p2) 22 12 (S.2 o 5)) _ rfl, if_pos f0, g0 (wr (wr (wr S 22 11 p2) 22 12 (S.2 o 5)) 26 0 (S.2 o 3)) _ rfl, if_pos f2, g0 (wr (wr (wr (wr S 22 11 p2) 22 12 (S.2 o 5)) 26 0 (S.2 o 3)) 26 2 (S.2 o 1)) _ rfl, if_pos f3, if_pos f4]
  · rw [wr_c q2, wr_c q2, wr_c q2, wr_c q2, wr_c q1, wr_c q1]
  · rw [wr_c (by decide), wr_c (by decide), wr_c (by decide), wr_c (by decide), wr_f, if_neg (by decide), wr_f, if_pos rfl]
  · rw [wr_c (by decide), wr_c (by decide), wr_c (by decide), wr_c (by decide), wr_f, if_pos rfl]
  · rw [wr_f, if_neg (by decide), wr_f, if_neg (by decide), wr_f, if_neg (by decide), wr_f, if_pos rfl]
  · rw [wr_f, if_neg (by decide), wr_f, if_neg (by decide), wr_f, if_pos rfl]
  · rw [wr_f, if_neg (by decide), wr_f, if_pos rfl]
  · rw [wr_f, if_pos rfl]
end
/-- the class has weighed, and told its reader of the claim c -/
noncomputable def Tld (S T : AH) (c : Nat) : Prop := T.1 = S.1 ∧ (∀ a, a ≠ 22 → a ≠ 26 → a ≠ 35 → T.2 a = S.2 a) ∧ (∀ i : Nat, (i : Int) < S.2 72 36 → ∃ z : Nat, T.2 35 i = z ∧ z < 65536 ∧ ∀ j, j < 16 → z.testBit j = mkL S.2 i j) ∧ (T.2 26 0 = S.2 111 c ∧ T.2 26 1 = Int.tmod (S.2 72 2) 360 ∧ T.2 26 2 = S.2 109 c ∧ T.2 26 3 = S.2 110 c ∧ T.2 26 4 = rkC S.2 c ∧ T.2 26 5 = pdH S.2 c) ∧ T.2 22 12 = S.2 113 c ∧ ∀ N : Int, 0 ≤ N → N ≤ 39 → (lcmp (land (lushr (T.2 22 11) N) 1) 0 = 0 ↔ udC S.2 c N = false)
section
variable {L : Nat} {xs : Nat → Int} {d : Nat} {S S' T U W : AH} {c : Nat}
theorem Tld.wh (p : Tld S T c) : Wh S.2 T.2 := ⟨fun a q1 _ _ _ _ => p.2.1 a (by first | decide | omega) (by first | decide | omega) (by first | decide | omega), fun k _ _ => by rw [p.2.1 72 (by decide) (by decide) (by decide)]⟩
theorem Tld.hi (p : Tld S T c) : ∀ a, 36 ≤ a → T.2 a = S.2 a := fun a q => p.2.1 a (by first | decide | omega) (by first | decide | omega) (by first | decide | omega)
theorem Tld.inv (p : Tld S T c) (H : Inv S) : Inv T := H.scr ⟨by rw [p.1]; exact Nat.le_refl _, fun a q1 _ => ⟨by rw [p.1], p.hi a (by first | decide | omega)⟩⟩ (fun a k q1 q2 => by
  unfold scr at q2
  rw [p.2.1 a (by first | decide | omega) (by first | decide | omega) (by first | decide | omega)])
theorem Wh.tl {h h' : Nat → Nat → Int} (p : Wh h h') (c : Nat) : mkL h' = mkL h ∧ rkC h' c = rkC h c ∧ pdH h' c = pdH h c ∧ udC h' c = udC h c := by
  refine ⟨p.mk, (p.le c 0).2.2, ?_, (p.le c 0).2.1⟩
  have := congrFun (p.le c 0).1 113
  exact this
theorem Tld.re (p : Tld S T c) : Tld T T c := by
  obtain ⟨e1, e2, e3, e4⟩ := p.wh.tl c
  refine ⟨rfl, fun _ _ _ _ => rfl, fun i hi => ?_, ?_, ?_, fun N q1 q2 => ?_⟩
  · rw [e1]
    exact p.2.2.1 i (by rw [← p.hi 72 (by decide)]; exact hi)
  · rw [e2, e3, p.hi 111 (by decide), p.hi 72 (by decide), p.hi 109 (by decide), p.hi 110 (by decide)]
    exact p.2.2.2.1
  · rw [p.hi 113 (by decide)]
    exact p.2.2.2.2.1
  · rw [e4]
    exact p.2.2.2.2.2 N q1 q2
theorem Tld.tr (p : Tld S T c) (q : Tld T U c) : Tld S U c := by
  obtain ⟨e1, e2, e3, e4⟩ := p.wh.tl c
  refine ⟨q.1.trans p.1, fun a z1 z2 z3 => (q.2.1 a z1 z2 z3).trans (p.2.1 a z1 z2 z3), fun i hi => ?_, ?_, ?_, fun N q1 q2 => ?_⟩
  · rw [← e1]
    exact q.2.2.1 i (by rw [p.hi 72 (by decide)]; exact hi)
  · have := q.2.2.2.1
    rw [e2, e3, p.hi 111 (by decide), p.hi 72 (by decide), p.hi 109 (by decide), p.hi 110 (by decide)] at this
    exact this
  · rw [q.2.2.2.2.1, p.hi 113 (by decide)]
  · rw [← e4]
    exact q.2.2.2.2.2 N q1 q2
theorem Tld.qf (p : Tld S T c) (q : Qf T U) : Tld S U c := by
  refine ⟨q.1.trans p.1, fun a z1 z2 z3 => (q.2.1 a z1).trans (p.2.1 a z1 z2 z3), fun i hi => ?_, ?_, ?_, fun N q1 q2 => ?_⟩
  · rw [q.2.1 35 (by decide)]
    exact p.2.2.1 i hi
  · rw [q.2.1 26 (by decide)]
    exact p.2.2.2.1
  · rw [q.2.2 12 (by decide)]
    exact p.2.2.2.2.1
  · rw [q.2.2 11 (by decide)]
    exact p.2.2.2.2.2 N q1 q2
theorem Tld.wl (p : Tld S T c) (l : Int) : Tld S (wr T 26 6 l) c := by
  refine ⟨p.1, fun a z1 z2 z3 => (wr_c z2).trans (p.2.1 a z1 z2 z3), fun i hi => ?_, ?_, ?_, fun N q1 q2 => ?_⟩
  · rw [wr_c (by decide)]
    exact p.2.2.1 i hi
  · rw [wr_f, if_neg (by decide), wr_f, if_neg (by decide), wr_f, if_neg (by decide), wr_f, if_neg (by decide), wr_f, if_neg (by decide), wr_f, if_neg (by decide)]
    exact p.2.2.2.1
  · rw [wr_c (by decide)]
    exact p.2.2.2.2.1
  · rw [wr_c (by decide)]
    exact p.2.2.2.2.2 N q1 q2
theorem Tld.fa (p : Tld T T c) {l : Int} (h6 : T.2 26 6 = l) : FA T (leC T.2 c l) (udC T.2 c) := by
  obtain ⟨a0, a1, a2, a3, a4, a5⟩ := p.2.2.2.1
  refine ⟨⟨?_, ?_, ?_, ?_, ?_, ?_, ?_⟩, p.2.2.2.2.2⟩
  · rw [a0]
    rfl
  · rw [a1]
    rfl
  · rw [a2]
    rfl
  · rw [a3]
    rfl
  · rw [a4]
    rfl
  · rw [a5]
    rfl
  · rw [h6]
    rfl
/-- bits of the heads above -/
theorem up_bits (gp : GP S.2) {i : Nat} (hi : (i : Int) < S.2 72 4) (N : Int) (h0 : 0 ≤ N) (h39 : N ≤ 39) : lcmp (land (lushr (S.2 18 i) N) 1) 0 = 0 ↔ (decide (N < S.2 72 4) && uN S.2 (i : Int) N) = false := by
  obtain ⟨p1, p2, p3⟩ := gp.2.2.2.1 i hi
  have h40 := gp.1.1
  obtain ⟨n, hn⟩ := Int.eq_ofNat_of_zero_le h0
  subst hn
  rw [lc_eq, lbit _ _ p1 (by first | decide | omega) (by first | decide | omega) (by first | decide | omega), Int.toNat_natCast, p3 n]
  unfold uN
  rw [Int.toNat_natCast, Int.toNat_natCast]
  by_cases c : und (S.2 74) i i n = true
  · have := und_le gp.1.up i i n (by first | decide | omega) c
    rw [if_pos c, c, decide_eq_true (show (n : Int) < S.2 72 4 by omega)]
    decide
  · rw [if_neg c, nf c, Bool.and_false]
    decide
theorem x_tell (H : Inv S) (hB : B35 S T (S.2 72 2) (skd S.2 (S.2 72 2)) (S.2 72 36).toNat) (hc : (c : Int) < S.2 72 52) : ∃ U, ev (WK L xs) (d + 5) 29 [vr 15, vr (clA S c)] T = some (0, U) ∧ Tld S U c := by
  have cT : ∀ a, a ≠ 35 → T.2 a = S.2 a := hB.2.1
  have HT : Inv T := H.scr ⟨by rw [hB.1]; exact Nat.le_refl _, fun a q1 _ => ⟨by rw [hB.1], cT a (by first | decide | omega)⟩⟩ (fun a k q1 q2 => by rw [cT a (fun e => q2 (by unfold scr; omega))])
  have eT : clA T c = clA S c := by unfold clA; rw [cT 44 (by decide)]
  have hcT : (c : Int) < T.2 72 52 := by rw [cT 72 (by decide)]; exact hc
  obtain ⟨a1, a2, a3, a4, a5, a6, a7, a8, -⟩ := HT.gk.2.2.2.2.1 c hcT
  obtain ⟨-, r2, -, -, -, r6, -, r8, -⟩ := HT.gk.1.2.2.2.1 c hcT
  rw [eT] at a1 a2 a3 a4 a5 a6 a7 a8
  obtain ⟨sg, hsg⟩ := Int.eq_ofNat_of_zero_le r6.1
  obtain ⟨hd, hhd⟩ := Int.eq_ofNat_of_zero_le r2.1
  obtain ⟨A, b1, b2, b3, b4, b5, b6, b7, b8, b9⟩ := x_tellC (L := L) (xs := xs) (d := d + 3) a1 (T.2 18 hd) (rkF T.2 sg (T.2 72 5).toNat) (by rw [a7]; exact r8)
  have HA : Inv A := HT.scr ⟨by rw [b2]; exact Nat.le_refl _, fun a q1 _ => ⟨by rw [b2], b3 a (by first | decide | omega) (by first | decide | omega)⟩⟩ (fun a k q1 q2 => by
    unfold scr at q2
    rw [b3 a (by first | decide | omega) (by first | decide | omega)])
  have a1A : isO A (clA S c) 12 15 := a1.eq b2
  have eA : A.2 (clA S c) = T.2 (clA S c) := b3 _ (by have := a1.1; omega) (by have := a1.1; omega)
  have hcA : (c : Int) < A.2 72 52 := by rw [b3 72 (by decide) (by decide)]; exact hcT
  have hpd := x_paidHd (L := L) (xs := xs) (d := d + 1) HA.gk hcA
  have e72 : A.2 72 = S.2 72 := (b3 72 (by decide) (by decide)).trans (cT 72 (by decide))
  have whA : Wh S.2 A.2 := ⟨fun a q1 _ _ _ _ => (b3 a (by first | decide | omega) (by first | decide | omega)).trans (cT a (by first | decide | omega)), fun k _ _ => by rw [e72]⟩
  obtain ⟨w1, w2, w3, w4⟩ := whA.tl c
  rw [w3] at hpd
  have hn := H.gt.1
  refine ⟨wr (wr A 26 1 (Int.tmod (S.2 72 2) 360)) 26 5 (pdH S.2 c), ?_, b2.trans hB.1, fun a z1 z2 z3 => ?_, fun i hi => ?_, ⟨?_, ?_, ?_, ?_, ?_, ?_⟩, ?_, fun N q1 q2 => ?_⟩
  · have A15 : A.2 15 0 = S.2 72 2 := by rw [b3 15 (by decide) (by decide), cT 15 (by decide), hn]
    rw [q_29, k12 a1, rdvD a1.1, a3, x_headsAbove HT.gp, if_pos r2, hhd, Int.toNat_natCast, bR, k12 a1, rdvD a1.1, a8, hsg, x_rank HT.gp (by first | decide | omega), bR, b1, bR, k12 a1A, A15, x_yearOf, bR, rdvD a1.1, eA, a2, show T.2 108 c = A.2 108 c from (by rw [b3 108 (by decide) (by decide)]), show yr (S.2 72 2) = yr (A.2 72 2) by rw [e72], show ev (WK L xs) (d + 4) 83 [vr 43, vi (A.2 108 c), vi (yr (A.2 72 2))] A = _ from hpd, bR, q_156, if_pos (by decide), if_pos (by decide), bR]
  · rw [wr_c z2, wr_c z2, b3 a z1 z2, cT a z3]
  · rw [wr_c (by decide), wr_c (by decide), b3 35 (by decide) (by decide)]
    exact hB.2.2 i (by first | decide | omega)
  · rw [wr_f, if_neg (by decide), wr_f, if_neg (by decide), b6, a5, cT 111 (by decide)]
  · rw [wr_f, if_neg (by decide), wr_f, if_pos rfl]
  · rw [wr_f, if_neg (by decide), wr_f, if_neg (by decide), b7, a3, cT 109 (by decide)]
  · rw [wr_f, if_neg (by decide), wr_f, if_neg (by decide), b8, a4, cT 110 (by decide)]
  · rw [wr_f, if_neg (by decide), wr_f, if_neg (by decide), b9]
    have wT : Wh S.2 T.2 := ⟨fun a q1 _ _ _ _ => cT a (by first | decide | omega), fun k _ _ => by rw [cT 72 (by decide)]⟩
    have e : rkC T.2 c = rkC S.2 c := (wT.tl c).2.1
    rw [← e]
    unfold rkC
    rw [hsg, Int.toNat_natCast]
  · rw [wr_f, if_pos rfl]
  · rw [wr_c (by decide), wr_c (by decide), b5, a7, cT 113 (by decide)]
  · rw [wr_c (by decide), wr_c (by decide), b4]
    have := up_bits HT.gp (i := hd) (by first | decide | omega) N q1 q2
    have e : udC S.2 c N = (decide (N < T.2 72 4) && uN T.2 (hd : Int) N) := by
      unfold udC uN
      rw [cT 72 (by decide), cT 74 (by decide), ← hhd, cT 109 (by decide)]
    rw [e]
    exact this
end
end
section
-- 99k.xbars
/-! the class's bar of an authority -/
section
variable {L : Nat} {xs : Nat → Int} {d : Nat} {S S' T U W A : AH} {c : Nat}
theorem m1_ok : ((List.range 16).all fun j => decide (iand (ishr (-1) (j : Int)) 1 = 1)) = true := by decide +kernel
theorem m1_bit (j : Nat) (hj : j < 16) : iand (ishr (-1) (j : Int)) 1 = 1 := of_decide_eq_true (List.all_eq_true.mp m1_ok j (List.mem_range.mpr hj))
theorem Qf.inv (q : Qf A T) (H : Inv A) : Inv T := H.scr q.fr (fun a k q1 q2 => by
  by_cases e : a = 22
  · exact absurd (by unfold scr; omega) q2
  · rw [q.2.1 a e])
theorem Qf.wh (q : Qf A T) : Wh A.2 T.2 := ⟨fun a q1 _ _ _ _ => q.2.1 a (by first | decide | omega), fun k _ _ => by rw [q.2.1 72 (by decide)]⟩
/-- one text, in a state behind others -/
theorem x_textQ (hA : Tld A A c) {l : Int} (h6 : A.2 26 6 = l) (hQ : Qf A T) {a tt : Nat} (hT : TX A a tt) {mk : Nat → Bool} {x2 : Int} (hm : ∀ j : Nat, j < 16 → (iand (ishr x2 (j : Int)) 1 = 0 ↔ mk j = false)) : ∃ U, ev (WK L xs) (d + 70) 158 [vr 22, vr a, vi x2] T = some (tbR A.2 c l mk tt (A.2 78 tt).toNat 0, U) ∧ Qf A U := by
  have w := hQ.wh
  have fT : FA T (leC T.2 c l) (udC T.2 c) := by
    rw [(w.le c l).1, (w.le c l).2.1]
    exact hQ.fa (hA.fa h6)
  obtain ⟨U, u1, u2⟩ := x_barText (L := L) (xs := xs) (d := d) (hQ.tx hT) fT (by rw [hQ.2.2 12 (by decide), hQ.2.1 113 (by decide)]; exact hA.2.2.2.2.1) hm
  rw [hQ.2.1 78 (by decide), w.tb] at u1
  exact ⟨U, u1, hQ.tr u2⟩
theorem x_lawB (H : Inv A) (hA : Tld A A c) {l : Int} (h6 : A.2 26 6 = l) : ∀ (m i : Nat) (T : AH), (i : Int) + m = A.2 72 36 → Qf A T → ∃ U, LQ (WK L xs) (ev (WK L xs) (d + 70)) 30 154 [some (vr 15), none, none, none, none, none, none, none, none, some (vi 0), some (vi (i : Int))] [] T = some (laR A.2 c l (mkL A.2) m i, U) ∧ Qf A U := by
  have gl := H.gl
  have hl0 := gl.2.1
  have hl20 := gl.2.2.1
  intro m
  induction m with
  | zero =>
    intro i T hi hQ
    refine ⟨T, ?_, hQ⟩
    rw [q_30_154, hQ.2.1 31 (by decide), gl.1, if_neg (by first | decide | omega)]
    rfl
  | succ m ih =>
    intro i T hi hQ
    have hil : (i : Int) < A.2 72 36 := by omega
    have q20 : (0 : Int) ≤ (i : Int) ∧ (i : Int) < 20 := by omega
    have e1 : w32 ((i : Int) + 1) = ((i + 1 : Nat) : Int) := by
      rw [w32e (by first | decide | omega) (by first | decide | omega)]
      rfl
    have hTX := (gl.2.2.2 i hil).2.2
    obtain ⟨z, z1, z2, z3⟩ := hA.2.2.1 i hil
    have h103 : ∀ dd, ev (WK L xs) (dd + 1) 103 [vr 31, vi (i : Int)] T = some (1, T) := fun dd => by
      rw [q_103, hQ.2.1 31 (by decide), gl.1, rng, bi_T ⟨q20.1, hil⟩]
    obtain ⟨U, u1, u2⟩ := x_textQ (L := L) (xs := xs) (d := d) hA h6 hQ hTX (mk := mkL A.2 i) (x2 := (z : Int)) (fun j hj => by
      rw [bit16 z2 hj, z3 j hj]
      cases mkL A.2 i j <;> decide)
    have go := q_30_154 L xs (d + 70) T 0 (i : Int)
    rw [hQ.2.1 31 (by decide), gl.1, if_pos hil, if_pos rfl, q_106, h103, bR, if_neg (by decide), if_pos q20, bR, q_107, h103, bR, if_neg (by decide), if_pos q20, bR] at go
    simp only [Int.toNat_natCast, hQ.2.1 32 (by decide), hQ.2.1 35 (by decide), z1] at go
    rw [u1, bR, e1] at go
    show ∃ U, LQ (WK L xs) (ev (WK L xs) (d + 70)) 30 154 [some (vr 15), none, none, none, none, none, none, none, none, some (vi 0), some (vi (i : Int))] [] T = some (if tbR A.2 c l (mkL A.2 i) i (A.2 78 i).toNat 0 ≠ 0 then tbR A.2 c l (mkL A.2 i) i (A.2 78 i).toNat 0 else laR A.2 c l (mkL A.2) m (i + 1), U) ∧ Qf A U
    by_cases y : tbR A.2 c l (mkL A.2 i) i (A.2 78 i).toNat 0 = 0
    · obtain ⟨V, v1, v2⟩ := ih (i + 1) U (by first | decide | omega) u2
      rw [if_neg (fun w => w y)]
      rw [y] at go
      exact ⟨V, go.trans v1, v2⟩
    · rw [if_pos y]
      refine ⟨U, go.trans ?_, u2⟩
      rw [q_30_154]
      split
      · rfl
      · rfl
theorem x_ceL (H : Inv S) {v : Nat} (hc : (c : Int) < S.2 72 52) {y : Int} (hy : 0 ≤ y ∧ y < 10) : ∀ (m x : Nat), x + m = (S.2 72 40).toNat → LQ (WK L xs) (ev (WK L xs) (d + 5)) 31 3 [some (vr 15), some (vr (clA S c)), some (vi (v : Int)), some (vi y), some (vi (x : Int)), none] [] S = some (if ceL S.2 c v y m x = true then 1 else 0, S) := by
  have gv := H.gv
  have gk := H.gk
  have hn := gv.1.1
  obtain ⟨-, r2, -⟩ := gk.1.2.2.2.1 c hc
  obtain ⟨b1, b2, b3, b4, b5, -⟩ := gk.2.2.2.2.1 c hc
  intro m
  induction m with
  | zero =>
    intro x hx
    rw [q_31_3, gv.2.1, if_neg (by first | decide | omega)]
    rfl
  | succ m ih =>
    intro x hx
    have hxl : (x : Int) < S.2 72 40 := by omega
    have e1 : w32 ((x : Int) + 1) = ((x + 1 : Nat) : Int) := by
      rw [w32e (by first | decide | omega) (by first | decide | omega)]
      rfl
    obtain ⟨-, s2, -⟩ := gv.1.2.1 x hxl
    obtain ⟨a1, a2, a3, a4, a5, a6, a7, a8, a9, a10, -⟩ := gv.2.2.2.1 x hxl
    have hi := ih (x + 1) (by first | decide | omega)
    have h5 := a1.1
    have go := q_31_3 L xs (d + 5) S (clA S c) (v : Int) y (x : Int)
    rw [gv.2.1, if_pos hxl, x_au gv hxl, bR, Int.toNat_natCast, if_neg (by first | decide | omega), g14a a1, e1] at go
    simp only [k11 a1, k12 b1, rdvD h5, rdvD b1.1, a3, a4, a8, a10, b3] at go
    rw [x_isUnder H.gp, bR, x_leftOf H hxl hy, bR, hi] at go
    simp only [k12 b1, rdvD b1.1, b5, bi_0, lc_lt] at go
    show _ = some (if (ceP S.2 c v y x || ceL S.2 c v y m (x + 1)) = true then 1 else 0, S)
    by_cases c1 : S.2 97 x = 1
    rotate_left
    · rw [if_neg c1] at go
      rw [show ceP S.2 c v y x = false from decide_eq_false (fun z => c1 z.1), Bool.false_or]
      exact go
    rw [if_pos c1, if_pos c1] at go
    by_cases c2 : S.2 102 x = v
    rotate_left
    · rw [if_neg c2] at go
      rw [show ceP S.2 c v y x = false from decide_eq_false (fun z => c2 z.2.1), Bool.false_or]
      exact go
    rw [if_pos c2] at go
    by_cases c3 : S.2 101 x = -1
    rotate_left
    · rw [if_neg c3] at go
      rw [show ceP S.2 c v y x = false from decide_eq_false (fun z => c3 z.2.2.1), Bool.false_or]
      exact go
    rw [if_pos c3] at go
    by_cases c4 : uN S.2 (S.2 109 c) (S.2 98 x) = true
    rotate_left
    · rw [if_pos (fun z => c4 z.2.2)] at go
      rw [show ceP S.2 c v y x = false from decide_eq_false (fun z => c4 z.2.2.2.1), Bool.false_or]
      exact go
    rw [if_neg (fun z => z ⟨r2, s2, c4⟩)] at go
    by_cases c5 : lft S.2 x y < S.2 111 c
    · rw [if_pos c5] at go
      rw [show ceP S.2 c v y x = true from decide_eq_true ⟨c1, c2, c3, c4, c5⟩, Bool.true_or, if_pos rfl]
      exact go
    · rw [if_neg c5] at go
      rw [show ceP S.2 c v y x = false from decide_eq_false (fun z => c5 z.2.2.2.2), Bool.false_or]
      exact go
theorem x_bar (H : Inv S) (hS : Tld S S c) {v : Nat} (hc : (c : Int) < S.2 72 52) (hv : (v : Int) < S.2 72 40) (hk1 : S.2 97 v ≠ 1) : ∃ U, ev (WK L xs) (d + 71) 30 [vr 15, vr (clA S c), vi (v : Int), vr (auA S v)] S = some (barV S.2 c v, U) ∧ Tld S U c := by
  have gv := H.gv
  have gk := H.gk
  have hn := gv.1.1
  have hcn := gv.1.2.2.2.1
  have hy := H.yN
  have ht := H.gt.1
  obtain ⟨-, r2, -, -, r5, -⟩ := gk.1.2.2.2.1 c hc
  obtain ⟨b1, b2, b3, b4, b5, b6, -⟩ := gk.2.2.2.2.1 c hc
  obtain ⟨-, s2, -, -, -, -, -, s8⟩ := gv.1.2.1 v hv
  obtain ⟨a1, a2, a3, a4, a5, a6, a7, a8, a9, a10, a11, a12, a13, a14, a15, a16⟩ := gv.2.2.2.1 v hv
  have h5 := a1.1
  have n0 : ¬ auA S v = 0 := by omega
  rw [if_neg hk1] at a9
  -- behind what it has
  have k100 : ∀ t : Int, ∃ U, LQ (WK L xs) (ev (WK L xs) (d + 70)) 30 100 [some (vr 15), some (vr (clA S c)), some (vi (v : Int)), some (vr (auA S v)), some (vi (yr (S.2 72 2))), some (vl (lft S.2 v (yr (S.2 72 2)))), none, none, none, none, none] [vl t] S = some (if t < S.2 111 c then 3 else if ceL S.2 c v (yr (S.2 72 2)) (S.2 72 40).toNat 0 = true then 4 else btR S.2 c v (lft S.2 v (yr (S.2 72 2))), U) ∧ Tld S U c := by
    intro t
    have hce := x_ceL (L := L) (xs := xs) (d := d + 64) H (v := v) hc hy (S.2 72 40).toNat 0 (by first | decide | omega)
    have h31 : ev (WK L xs) (d + 70) 31 [vr 15, vr (clA S c), vi (v : Int), vi (yr (S.2 72 2))] S = _ := (q_31 L xs (d + 69) S (clA S c) (v : Int) (yr (S.2 72 2))).trans hce
    rw [q_30_100, k12 b1, rdvD b1.1, b5]
    simp only [lc_lt]
    by_cases c1 : t < S.2 111 c
    · rw [if_pos c1, if_pos c1]
      exact ⟨S, rfl, hS⟩
    rw [if_neg c1, if_neg c1, h31, bR]
    by_cases c2 : ceL S.2 c v (yr (S.2 72 2)) (S.2 72 40).toNat 0 = true
    · rw [if_pos c2, if_pos c2, if_neg (by decide)]
      exact ⟨S, rfl, hS⟩
    rw [if_neg c2, if_neg c2, if_pos rfl, q_157, if_pos (by decide), bR]
    generalize hl : lft S.2 v (yr (S.2 72 2)) = l
    have pA := hS.wl l
    generalize hAA : wr S 26 6 l = A at pA ⊢
    have A6 : A.2 26 6 = l := by rw [← hAA, wr_f, if_pos rfl]
    have HA := pA.inv H
    have a1A : isO A (auA S v) 11 14 := a1.eq pA.1
    have eA : A.2 (auA S v) = S.2 (auA S v) := pA.hi _ (by first | decide | omega)
    have tA : TX A (S.2 (auA S v) 5).toNat (20 + v) := a15.fr ⟨by rw [pA.1]; exact Nat.le_refl _, fun a q1 _ => ⟨by rw [pA.1], pA.hi a (by first | decide | omega)⟩⟩ (fun a q1 q2 => pA.hi a (by first | decide | omega))
    obtain ⟨U, u1, u2⟩ := x_textQ (L := L) (xs := xs) (d := d) pA.re A6 Qf.rf tA (mk := mkA) (x2 := -1) (fun j hj => by
      rw [m1_bit j hj]
      show (1 : Int) = 0 ↔ true = false
      decide)
    have eL : A.2 72 = S.2 72 := pA.hi 72 (by decide)
    have hl0 := HA.gl.2.1
    obtain ⟨V, v1, v2⟩ := x_lawB (L := L) (xs := xs) (d := d) HA pA.re A6 (A.2 72 36).toNat 0 U (by first | decide | omega) u2
    rw [pA.wh.tb, pA.hi 78 (by decide)] at u1
    rw [pA.wh.la, pA.wh.mk, eL] at v1
    rw [k11 a1A, rdvD h5, eA, u1, bR]
    unfold btR
    by_cases z : tbR S.2 c l mkA (20 + v) (S.2 78 (20 + v)).toNat 0 = 0
    · rw [z, if_neg (fun y => y rfl)]
      exact ⟨V, v1, (pA.qf v2)⟩
    · rw [if_pos z]
      refine ⟨U, ?_, pA.qf u2⟩
      rw [q_30_154]
      split
      · rfl
      · rfl
  have go := q_30 L xs (d + 70) S (clA S c) (v : Int) (auA S v)
  rw [ht, x_yearOf, bR, if_neg n0, g14a a1] at go
  simp only [k11 a1, k12 b1, rdvD h5, rdvD b1.1, a4, a9, a10, b3, b6] at go
  rw [x_isUnder H.gp, bR, x_isOf gv hv, bR, x_leftOf H hv hy, bR] at go
  simp only [k11 a1, k12 b1, rdvD h5, rdvD b1.1, a9, a10, b6, bi_0] at go
  unfold barV
  by_cases c1 : uN S.2 (S.2 109 c) (S.2 98 v) = true
  rotate_left
  · rw [if_pos (fun z => c1 z.2.2)] at go
    rw [if_pos (Or.inl (nf c1))]
    exact ⟨S, go, hS⟩
  rw [if_neg (fun z => z ⟨r2, s2, c1⟩)] at go
  by_cases c2 : ofY S.2 v (yr (S.2 72 2)) = true
  rotate_left
  · rw [if_pos c2] at go
    rw [if_pos (Or.inr (nf c2))]
    exact ⟨S, go, hS⟩
  rw [if_neg (fun z => z c2)] at go
  rw [if_neg (fun z => z.elim (fun y => by rw [c1] at y; cases y) (fun y => by rw [c2] at y; cases y))]
  by_cases c3 : S.2 101 v = -1
  rotate_left
  · rw [if_neg c3] at go
    rw [if_pos (Or.inl c3)]
    exact ⟨S, go, hS⟩
  rw [if_pos c3] at go
  by_cases c5 : S.2 102 v = -1
  rotate_left
  · rw [if_neg c5] at go
    have k4 : S.2 97 v = 4 := by
      by_cases z : S.2 97 v = 4
      · exact z
      · exact absurd (s8 hk1 z) c5
    rw [if_pos (Or.inr ⟨k4, c5⟩)]
    exact ⟨S, go, hS⟩
  rw [if_pos c5] at go
  rw [if_neg (fun z => z.elim (fun y => y c3) (fun y => y.2 c5))]
  unfold hasV
  by_cases c6 : S.2 112 c = -1
  · rw [if_pos c6] at go
    rw [if_pos c6]
    obtain ⟨U, u1, u2⟩ := k100 (lft S.2 v (yr (S.2 72 2)))
    exact ⟨U, go.trans u1, u2⟩
  · obtain ⟨k, hkk⟩ := Int.eq_ofNat_of_zero_le (show 0 ≤ S.2 112 c by omega)
    rw [if_neg c6, hkk, x_boundBy gv gk (by first | decide | omega) hy, bR] at go
    rw [if_neg c6, hkk, Int.toNat_natCast]
    obtain ⟨U, u1, u2⟩ := k100 (bnd S.2 k (yr (S.2 72 2)))
    exact ⟨U, go.trans u1, u2⟩
end
end
section
-- 99l.omay
/-! who lets: the class's side, and may -/
section
variable {L : Nat} {xs : Nat → Int} {d : Nat} {S S' T U W A : AH} {h : Nat → Nat → Int} {c : Nat}
theorem leV_skip {k : Int} {a : Nat} (h1 : h 112 c ≠ -1) (h2 : h 124 (h 112 c).toNat = a) (hk : h 97 a ≠ k) : ∀ (m v : Nat) (w : Int), leV h c k m v w = .inr w := by
  intro m
  induction m with
  | zero => intro v w; rfl
  | succ m ih =>
    intro v w
    unfold leV
    rw [if_neg (fun z => z.2.elim h1 (fun y => hk (by rw [h2] at y; rw [show a = v by omega]; exact z.1)))]
    exact ih _ _
theorem leV_past {k : Int} {a : Nat} (h1 : h 112 c ≠ -1) (h2 : h 124 (h 112 c).toNat = a) : ∀ (m v : Nat) (w : Int), a < v → leV h c k m v w = .inr w := by
  intro m
  induction m with
  | zero => intro v w _; rfl
  | succ m ih =>
    intro v w hv
    unfold leV
    rw [if_neg (fun z => z.2.elim h1 (fun y => by rw [h2] at y; omega))]
    exact ih _ _ (by first | decide | omega)
theorem leV_hit {k : Int} {a : Nat} (h1 : h 112 c ≠ -1) (h2 : h 124 (h 112 c).toNat = a) (hk : h 97 a = k) : ∀ (m v : Nat) (w : Int), v ≤ a → a < v + m → leV h c k m v w = if barV h c a = 0 then .inl (a : Int) else .inr (max w (barV h c a)) := by
  intro m
  induction m with
  | zero => intro v w q1 q2; omega
  | succ m ih =>
    intro v w q1 q2
    unfold leV
    by_cases e : v = a
    · subst e
      rw [if_pos ⟨hk, Or.inr h2⟩, leV_past h1 h2 _ _ _ (by first | decide | omega)]
    · rw [if_neg (fun z => z.2.elim h1 (fun y => by rw [h2] at y; omega))]
      exact ih _ _ (by first | decide | omega) (by first | decide | omega)
theorem leK_cons {k : Int} {r : List Int} {w : Int} : leK h c (k :: r) w = match leV h c k (h 72 40).toNat 0 w with
    | .inl v => v
    | .inr u => leK h c r u := rfl
theorem leK_no {a : Nat} (h1 : h 112 c ≠ -1) (h2 : h 124 (h 112 c).toNat = a) : ∀ (r : List Int) (w : Int), (∀ k, k ∈ r → h 97 a ≠ k) → leK h c r w = -10 - w := by
  intro r
  induction r with
  | nil => intro w _; rfl
  | cons k r ih =>
    intro w hr
    rw [leK_cons, leV_skip h1 h2 (hr k (List.mem_cons_self ..))]
    exact ih w (fun q hq => hr q (List.mem_cons_of_mem _ hq))
theorem ltV_con {a : Nat} (h1 : h 112 c ≠ -1) (h2 : h 124 (h 112 c).toNat = a) (hk : h 97 a = 0 ∨ h 97 a = 2 ∨ h 97 a = 3) (ha : (a : Int) < h 72 40) : ltV h c = if barV h c a = 0 then (a : Int) else -10 - barV h c a := by
  have hb := barV_bd h c a
  have hit : ∀ (k : Int) (r : List Int), h 97 a = k → (∀ q, q ∈ r → h 97 a ≠ q) → leK h c (k :: r) 1 = if barV h c a = 0 then (a : Int) else -10 - barV h c a := by
    intro k r e hr
    rw [leK_cons, leV_hit h1 h2 e _ _ _ (by first | decide | omega) (by first | decide | omega)]
    by_cases z : barV h c a = 0
    · rw [if_pos z, if_pos z]
    · rw [if_neg z, if_neg z, show max 1 (barV h c a) = barV h c a by omega]
      exact leK_no h1 h2 r _ hr
  have miss : ∀ (k : Int) (r : List Int), h 97 a ≠ k → leK h c (k :: r) 1 = leK h c r 1 := by
    intro k r e
    rw [leK_cons, leV_skip h1 h2 e]
  unfold ltV
  rcases hk with e | e | e
  · exact hit 0 _ e (fun q hq => by
      rw [e]
      intro z
      rw [← z] at hq
      exact absurd hq (by decide))
  · rw [miss 0 _ (by first | decide | omega)]
    exact hit 2 _ e (fun q hq => by
      rw [e]
      intro z
      rw [← z] at hq
      exact absurd hq (by decide))
  · rw [miss 0 _ (by first | decide | omega), miss 2 _ (by first | decide | omega)]
    exact hit 3 _ e (fun q hq => by
      rw [e]
      intro z
      rw [← z] at hq
      exact absurd hq (by decide))
noncomputable def askK (i : Nat) : Int := [0, 2, 3, 4].getD i 0
theorem x_askK {i : Nat} (hi : i < 4) : rdv (WK L xs) S 2 i = askK i := by
  have : i = 0 ∨ i = 1 ∨ i = 2 ∨ i = 3 := by omega
  rcases this with rfl | rfl | rfl | rfl <;> rfl
theorem askK_1 {i : Nat} (hi : i < 4) : askK i ≠ 1 := by
  have : i = 0 ∨ i = 1 ∨ i = 2 ∨ i = 3 := by omega
  rcases this with rfl | rfl | rfl | rfl <;> decide
theorem x_letV (H : Inv S) (hc : (c : Int) < S.2 72 52) (h1 : S.2 112 c = -1) {i : Nat} (hi : i < 4) : ∀ (m v : Nat) (T : AH) (w : Int), v + m = (S.2 72 40).toNat → Tld S T c → ∃ U, LQ (WK L xs) (ev (WK L xs) (d + 71)) 28 79 [some (vr 15), some (vr (clA S c)), some (vi w), some (vi (i : Int)), some (vi (v : Int)), none, none] [] T = (match leV S.2 c (askK i) m v w with
    | .inl a => some (a, U)
    | .inr u => LQ (WK L xs) (ev (WK L xs) (d + 71)) 28 68 [some (vr 15), some (vr (clA S c)), some (vi u), some (vi ((i + 1 : Nat) : Int)), none, none, none] [] U) ∧ Tld S U c := by
  have hn := H.gv.1.1
  intro m
  induction m with
  | zero =>
    intro v T w hv hT
    refine ⟨T, ?_, hT⟩
    rw [q_28_79, hT.hi 36 (by decide), H.gv.2.1, if_neg (by first | decide | omega), wj (j := i) (by first | decide | omega)]
    rfl
  | succ m ih =>
    intro v T w hv hT
    have hvl : (v : Int) < S.2 72 40 := by omega
    have e1 : w32 ((v : Int) + 1) = ((v + 1 : Nat) : Int) := by
      rw [w32e (by first | decide | omega) (by first | decide | omega)]
      rfl
    have HT := hT.inv H
    have T72 : T.2 72 = S.2 72 := hT.hi 72 (by decide)
    have hvT : (v : Int) < T.2 72 40 := by rw [T72]; exact hvl
    have eAu : auA T v = auA S v := by unfold auA; rw [hT.hi 37 (by decide)]
    have eCl : clA T c = clA S c := by unfold clA; rw [hT.hi 44 (by decide)]
    obtain ⟨a1, a2, a3, -⟩ := HT.gv.2.2.2.1 v hvT
    rw [eAu] at a1 a3
    have h5 := a1.1
    have T97 : T.2 97 = S.2 97 := hT.hi 97 (by decide)
    have hau := x_au (L := L) (xs := xs) (d := d + 70) HT.gv hvT
    rw [eAu] at hau
    have go := q_28_79 L xs (d + 71) T (clA S c) w (i : Int) (v : Int)
    rw [HT.gv.2.1, if_pos hvT, show ev (WK L xs) (d + 71) 168 [vr 36, vi (v : Int)] T = _ from hau, bR, Int.toNat_natCast, if_neg (by first | decide | omega), g14a a1, k11 a1, if_pos (show (0 : Int) ≤ (i : Int) ∧ (i : Int) < 4 by omega), Int.toNat_natCast, rdvD h5, a3, x_askK hi, T97, e1] at go
    by_cases c1 : S.2 97 v = askK i
    rotate_left
    · have e : leV S.2 c (askK i) (m + 1) v w = leV S.2 c (askK i) m (v + 1) w := by
        show (if S.2 97 v = askK i ∧ (S.2 112 c = -1 ∨ S.2 124 (S.2 112 c).toNat = v) then _ else _) = _
        rw [if_neg (fun z => c1 z.1)]
      rw [if_neg c1] at go
      rw [e]
      obtain ⟨V, v1, v2⟩ := ih (v + 1) T w (by first | decide | omega) hT
      exact ⟨V, go.trans v1, v2⟩
    rw [if_pos c1] at go
    have hk1 := askK_1 hi
    obtain ⟨U, u1, u2⟩ := x_bar (L := L) (xs := xs) (d := d) HT hT.re (c := c) (v := v) (by rw [T72]; exact hc) hvT (by rw [T97, c1]; exact hk1)
    rw [eCl, eAu, hT.wh.bar] at u1
    have u3 := hT.tr u2
    have e : leV S.2 c (askK i) (m + 1) v w = if barV S.2 c v = 0 then .inl (v : Int) else leV S.2 c (askK i) m (v + 1) (max w (barV S.2 c v)) := by
      show (if S.2 97 v = askK i ∧ (S.2 112 c = -1 ∨ S.2 124 (S.2 112 c).toNat = v) then _ else _) = _
      rw [if_pos ⟨c1, Or.inl h1⟩]
    rw [u1, bR] at go
    rw [e]
    by_cases c2 : barV S.2 c v = 0
    · rw [if_pos c2] at go
      rw [if_pos c2]
      exact ⟨U, go, u3⟩
    · rw [if_neg c2] at go
      rw [if_neg c2]
      obtain ⟨V, v1, v2⟩ := ih (v + 1) U (max w (barV S.2 c v)) (by first | decide | omega) u3
      exact ⟨V, go.trans v1, v2⟩
theorem x_who (H : Inv S) (hc : (c : Int) < S.2 72 52) : ∃ U, ev (WK L xs) (d + 72) 28 [vr 15, vr (clA S c)] S = some (ltV S.2 c, U) ∧ Tld S U c := by
  have gv := H.gv
  have gk := H.gk
  have hn := gv.1.1
  obtain ⟨-, -, -, -, r5, -⟩ := gk.1.2.2.2.1 c hc
  obtain ⟨b1, b2, b3, b4, b5, b6, -⟩ := gk.2.2.2.2.1 c hc
  obtain ⟨A, p1, p2⟩ := x_weigh (L := L) (xs := xs) (d := d + 67) H.gl (S.2 72 2)
  obtain ⟨T, t1, t2⟩ := x_tell (L := L) (xs := xs) (d := d + 66) H p2 hc
  have HT := t2.inv H
  have b1T : isO T (clA S c) 12 15 := b1.eq t2.1
  have eT : T.2 (clA S c) = S.2 (clA S c) := t2.hi _ (by have := b1.1; omega)
  have go := q_28 L xs (d + 71) S (clA S c)
  rw [H.gt.1, show ev (WK L xs) (d + 71) 104 [vr 31, vi (S.2 72 2)] S = some (0, A) from p1, bR, show ev (WK L xs) (d + 71) 29 [vr 15, vr (clA S c)] A = some (0, T) from t1, bR] at go
  simp only [k12 b1T, rdvD b1.1, eT, b6] at go
  by_cases c1 : S.2 112 c = -1
  · rw [if_pos c1] at go
    -- one kind
    have one : ∀ (i : Nat) (r : List Int), i < 4 → (∀ (T : AH) (w : Int), (0 ≤ w ∧ w ≤ 8) → Tld S T c → ∃ U, LQ (WK L xs) (ev (WK L xs) (d + 71)) 28 68 [some (vr 15), some (vr (clA S c)), some (vi w), some (vi ((i + 1 : Nat) : Int)), none, none, none] [] T = some (leK S.2 c r w, U) ∧ Tld S U c) → ∀ (T : AH) (w : Int), (0 ≤ w ∧ w ≤ 8) → Tld S T c → ∃ U, LQ (WK L xs) (ev (WK L xs) (d + 71)) 28 68 [some (vr 15), some (vr (clA S c)), some (vi w), some (vi (i : Int)), none, none, none] [] T = some (leK S.2 c (askK i :: r) w, U) ∧ Tld S U c := by
      intro i r hi hr T w hw hT
      have go := q_28_68 L xs (d + 71) T (clA S c) w (i : Int)
      rw [if_pos (by first | decide | omega)] at go
      obtain ⟨U, u1, u2⟩ := x_letV (L := L) (xs := xs) (d := d) H hc c1 hi (S.2 72 40).toNat 0 T w (by first | decide | omega) hT
      have hb := leV_bd S.2 c (askK i) (S.2 72 40).toNat 0 w
      rw [leK_cons]
      have go2 := go.trans u1
      revert go2 hb
      cases leV S.2 c (askK i) (S.2 72 40).toNat 0 w with
      | inl a =>
        intro hb go2
        exact ⟨U, go2, u2⟩
      | inr u =>
        intro hb go2
        obtain ⟨V, v1, v2⟩ := hr U u (hb u hw rfl) u2
        exact ⟨V, go2.trans v1, v2⟩
    have s4 := one 3 [] (by decide) (fun T w hw hT => ⟨T, by
      rw [q_28_68, if_neg (by decide), w32e (x := -10 - w) (by first | decide | omega) (by first | decide | omega)]
      rfl, hT⟩)
    have s3 := one 2 [4] (by decide) s4
    have s2 := one 1 [3, 4] (by decide) s3
    have s1 := one 0 [2, 3, 4] (by decide) s2
    obtain ⟨U, u1, u2⟩ := s1 T 1 (by decide) t2
    exact ⟨U, go.trans u1, u2⟩
  · obtain ⟨k, hk⟩ := Int.eq_ofNat_of_zero_le (show 0 ≤ S.2 112 c by omega)
    have hkc : (k : Int) < S.2 72 70 := by omega
    have hcn := gv.1.2.2.2.1
    obtain ⟨⟨k1, k2, k3, k4⟩, -⟩ := gv.1.2.2.2.2 k hkc
    obtain ⟨m1, -⟩ := gv.2.2.2.2.2.1 k hkc
    obtain ⟨a, ha⟩ := Int.eq_ofNat_of_zero_le k1
    rw [ha] at k2 k3 k4 m1
    rw [Int.toNat_natCast] at k3 k4
    have haT : (a : Int) < T.2 72 40 := by rw [t2.hi 72 (by decide)]; exact k2
    have eAu : auA T a = auA S a := by unfold auA; rw [t2.hi 37 (by decide)]
    have eCl : clA T c = clA S c := by unfold clA; rw [t2.hi 44 (by decide)]
    have hau := x_au (L := L) (xs := xs) (d := d + 70) HT.gv haT
    obtain ⟨U, u1, u2⟩ := x_bar (L := L) (xs := xs) (d := d) HT t2.re (c := c) (v := a) (by rw [t2.hi 72 (by decide)]; exact hc) haT (by rw [t2.hi 97 (by decide)]; exact k3)
    rw [eCl, t2.wh.bar] at u1
    have hb := barV_bd S.2 c a
    have rk := (gv.1.2.1 a k2).1
    have hlt := ltV_con (h := S.2) (c := c) c1 (a := a) (by rw [hk, Int.toNat_natCast]; exact ha) (by first | decide | omega) k2
    have h176 : ev (WK L xs) (d + 71) 176 [vr 36, vi (k : Int)] T = some ((a : Int), T) := by
      rw [q_176, x_isCon HT.gv, bR, bi_T (by rw [t2.hi 72 (by decide)]; omega), if_neg (by decide), if_pos (by first | decide | omega), Int.toNat_natCast, t2.hi 38 (by decide), m1]
    rw [if_neg c1, hk, h176, bR, show ev (WK L xs) (d + 71) 168 [vr 36, vi (a : Int)] T = _ from hau, bR, Int.toNat_natCast, u1, bR] at go
    rw [hlt]
    by_cases z : barV S.2 c a = 0
    · rw [if_pos z] at go
      rw [if_pos z]
      exact ⟨U, go, t2.tr u2⟩
    · rw [if_neg z, w32e (x := -10 - barV S.2 c a) (by first | decide | omega) (by first | decide | omega)] at go
      rw [if_neg z]
      exact ⟨U, go, t2.tr u2⟩
theorem o_may (H : Inv S) (p : Int) : Ok L xs 27 260 [vi p] S := by
  have gk := H.gk
  have hn := gk.n
  by_cases hp : 0 ≤ p ∧ p < S.2 72 52
  rotate_left
  · refine Ok.same (r := -1) H ?_ ?_
    · rw [q_27, x_cl0 gk hp, bR, if_pos (by decide)]
    · rw [q_260, m_isClaim gk.1, bR]
      simp only [bi_0]
      rw [if_pos hp]
  obtain ⟨c, hc⟩ := Int.eq_ofNat_of_zero_le hp.1
  subst hc
  have ho := gk.ob hp.2
  have h5 := ho.1
  obtain ⟨a1, a2, a3, a4, a5, a6, a7, a8, a9, -⟩ := gk.2.2.2.2.1 c hp.2
  have qc : (0 : Int) ≤ (c : Int) ∧ (c : Int) < 300 := by omega
  by_cases hd : S.2 115 c = -1
  rotate_left
  · refine Ok.same (r := -1) H ?_ ?_
    · rw [q_27, x_cl gk hp.2, bR, Int.toNat_natCast, if_neg (by first | decide | omega), g14 ho, k12a ho, x_isPaid ho, bR, a9]
      simp only [bi_0]
      rw [if_neg (fun z => z hd)]
    · rw [q_260, m_isClaim gk.1, bR]
      simp only [bi_0]
      rw [if_neg (fun z => z hp), if_pos qc, Int.toNat_natCast, if_neg hd]
  obtain ⟨U, u1, u2⟩ := x_who (L := L) (xs := xs) (d := 127) H hp.2
  have HU := u2.inv H
  obtain ⟨V, v1, v2⟩ := m_lets (L := L) (xs := xs) (d := 190) HU.ir (c := c) (by rw [u2.hi 72 (by decide)]; exact hp.2)
  rw [u2.wh.lt] at v1
  refine ⟨ltV S.2 c, U, V, ?_, ?_, v2.inv HU, ?_⟩
  · rw [q_27, x_cl gk hp.2, bR, Int.toNat_natCast, if_neg (by first | decide | omega), g14 ho, k12a ho, x_isPaid ho, bR, a9]
    simp only [bi_0]
    rw [if_pos (fun z => z hd), show ev (WK L xs) 199 28 [vr 15, vr (clA S c)] S = _ from u1, bR]
  · rw [q_260, m_isClaim HU.gk.1, bR]
    simp only [bi_0]
    rw [if_neg (fun z => z (by rw [u2.hi 72 (by decide)]; exact hp)), if_pos qc, Int.toNat_natCast, u2.hi 115 (by decide), if_pos hd, show ev (WK L xs) 199 261 [vr 72, vi (c : Int)] U = _ from v1, bR]
  · exact Gw.of (v2.1.trans u2.1)
end
end
section
-- 99m.paid
/-! a claim is paid: what holds behind -/
theorem pig : ∀ (N n : Nat) (f : Nat → Nat), (∀ i, i < n → f i < N) → (∀ i j, i < n → j < n → f i = f j → i = j) → n ≤ N := by
  intro N
  induction N with
  | zero =>
    intro n f h1 _
    by_cases hn : n = 0
    · omega
    · have := h1 0 (by first | decide | omega)
      omega
  | succ N ih =>
    intro n f h1 h2
    by_cases hx : ∃ i, i < n ∧ f i = N
    · obtain ⟨i, hi, hf⟩ := hx
      have := ih (n - 1) (fun j => if j = i then f (n - 1) else f j) (fun j hj => by
        show (if j = i then f (n - 1) else f j) < N
        by_cases e : j = i
        · rw [if_pos e]
          have a := h1 (n - 1) (by first | decide | omega)
          have b : f (n - 1) ≠ N := fun z => by
            have := h2 (n - 1) i (by first | decide | omega) hi (by first | decide | omega)
            omega
          omega
        · rw [if_neg e]
          have a := h1 j (by first | decide | omega)
          have b : f j ≠ N := fun z => e (h2 j i (by first | decide | omega) hi (by first | decide | omega))
          omega) (fun j k hj hk => by
        show (if j = i then f (n - 1) else f j) = (if k = i then f (n - 1) else f k) → j = k
        by_cases e : j = i
        · by_cases e2 : k = i
          · intro _
            omega
          · rw [if_pos e, if_neg e2]
            intro z
            have := h2 (n - 1) k (by first | decide | omega) (by first | decide | omega) z
            omega
        · by_cases e2 : k = i
          · rw [if_neg e, if_pos e2]
            intro z
            have := h2 j (n - 1) (by first | decide | omega) (by first | decide | omega) z
            omega
          · rw [if_neg e, if_neg e2]
            exact h2 j k (by first | decide | omega) (by first | decide | omega))
      omega
    · have := ih n f (fun i hi => by
        have a := h1 i hi
        have b : f i ≠ N := fun z => hx ⟨i, hi, z⟩
        omega) h2
      omega
section
variable {S S' T U : AH}
/-- not all are paid -/
theorem paid_lt (gk : GK S) {c : Nat} (hc : (c : Int) < S.2 72 52) (hd : S.2 115 c = -1) : S.2 72 53 < S.2 72 52 := by
  have h0 := gk.1.1
  have hp := gk.1.2.1
  have ho := gk.2.2.2.2.2.2.1
  have := pig (S.2 72 52).toNat ((S.2 72 53).toNat + 1) (fun i => if i = (S.2 72 53).toNat then c else (S.2 45 i).toNat) (fun i hi => by
    show (if i = (S.2 72 53).toNat then c else (S.2 45 i).toNat) < _
    by_cases e : i = (S.2 72 53).toNat
    · rw [if_pos e]
      omega
    · rw [if_neg e]
      have := ho i (by first | decide | omega)
      omega) (fun i j hi hj => by
    show (if i = (S.2 72 53).toNat then c else (S.2 45 i).toNat) = (if j = (S.2 72 53).toNat then c else (S.2 45 j).toNat) → i = j
    by_cases e : i = (S.2 72 53).toNat
    · by_cases e2 : j = (S.2 72 53).toNat
      · intro _
        omega
      · rw [if_pos e, if_neg e2]
        intro z
        have := (ho j (by first | decide | omega)).2.2.1
        rw [← z] at this
        exact absurd hd this
    · by_cases e2 : j = (S.2 72 53).toNat
      · rw [if_neg e, if_pos e2]
        intro z
        have := (ho i (by first | decide | omega)).2.2.1
        rw [z] at this
        exact absurd hd this
      · rw [if_neg e, if_neg e2]
        intro z
        have a := (ho i (by first | decide | omega)).2.2.2
        have b := (ho j (by first | decide | omega)).2.2.2
        rw [z, b] at a
        omega)
  omega
/-- the sums behind -/
theorem pby_pd {h h' : Nat → Nat → Int} {c v y : Nat} (hc : c < nClaims h) (e1 : ∀ j, h' 115 j = if j = c then h 72 2 else h 115 j) (e2 : ∀ j, h' 116 j = if j = c then (v : Int) else h 116 j) (e3 : h' 97 = h 97) (e4 : h' 102 = h 102) (e5 : h' 111 = h 111) (e6 : h' 72 52 = h 72 52) (hd : h 115 c = -1) (hn : 0 ≤ h 72 2) (hy : yr (h 72 2) = y) (ov : ¬ (h 97 v = 4 ∧ h 102 v ≠ -1)) :
    (∀ e, cby h' e = if e = c then (v : Int) else cby h e) ∧ (∀ e z, pin h' e z = if e = c then decide ((y : Int) = z) else pin h e z) ∧ ∀ (u : Nat) (z : Int), pby h' u z = pby h u z + if u = v ∧ (y : Int) = z then h 111 c else 0 := by
  have a1 : ∀ e, cby h' e = if e = c then (v : Int) else cby h e := by
    intro e
    unfold cby
    rw [e2, e3, e4]
    by_cases q : e = c
    · rw [if_pos q, if_pos q, Int.toNat_natCast, if_neg (fun z => ov ⟨z.2.1, z.2.2⟩)]
    · rw [if_neg q, if_neg q]
  have a2 : ∀ e z, pin h' e z = if e = c then decide ((y : Int) = z) else pin h e z := by
    intro e z
    unfold pin
    rw [e1]
    by_cases q : e = c
    · rw [if_pos q, if_pos q, hy]
      by_cases w : (y : Int) = z
      · rw [decide_eq_true w, decide_eq_true (show h 72 2 ≠ -1 ∧ (y : Int) = z from ⟨by omega, w⟩)]
      · rw [decide_eq_false w, decide_eq_false (show ¬ (h 72 2 ≠ -1 ∧ (y : Int) = z) from fun x => w x.2)]
    · rw [if_neg q, if_neg q]
  refine ⟨a1, a2, fun u z => ?_⟩
  have p0 : pin h c z = false := decide_eq_false (fun x => x.1 hd)
  unfold pby
  rw [show nClaims h' = nClaims h by unfold nClaims; rw [e6], e5]
  rw [sm_one (f := fun c => if pin h c z = true ∧ cby h c = (u : Int) then h 111 c else 0) hc (fun k _ hk => by
    show (if pin h' k z = true ∧ cby h' k = (u : Int) then h 111 k else 0) = (if pin h k z = true ∧ cby h k = (u : Int) then h 111 k else 0)
    rw [a1, a2, if_neg hk, if_neg hk])]
  show _ - (if pin h c z = true ∧ cby h c = (u : Int) then h 111 c else 0) + (if pin h' c z = true ∧ cby h' c = (u : Int) then h 111 c else 0) = _
  rw [a1, a2, if_pos rfl, if_pos rfl, p0, if_neg (fun x => by cases x.1), Int.sub_zero]
  congr 1
  by_cases w : u = v ∧ (y : Int) = z
  · rw [if_pos w, if_pos ⟨decide_eq_true w.2, by omega⟩]
  · rw [if_neg w, if_neg (fun x => w ⟨by omega, of_decide_eq_true x.1⟩)]
theorem pct_pd {h h' : Nat → Nat → Int} {c y : Nat} (hc : c < nClaims h) (a2 : ∀ e z, pin h' e z = if e = c then decide ((y : Int) = z) else pin h e z) (e4 : h' 112 = h 112) (e5 : h' 111 = h 111) (e6 : h' 72 52 = h 72 52) (hd : h 115 c = -1) (k z : Int) : pct h' k z = pct h k z + if h 112 c = k ∧ (y : Int) = z then h 111 c else 0 := by
  have p0 : pin h c z = false := decide_eq_false (fun x => x.1 hd)
  unfold pct
  rw [show nClaims h' = nClaims h by unfold nClaims; rw [e6], e4, e5]
  rw [sm_one (f := fun c => if pin h c z = true ∧ h 112 c = k then h 111 c else 0) hc (fun j _ hk => by
    show (if pin h' j z = true ∧ h 112 j = k then h 111 j else 0) = (if pin h j z = true ∧ h 112 j = k then h 111 j else 0)
    rw [a2, if_neg hk])]
  show _ - (if pin h c z = true ∧ h 112 c = k then h 111 c else 0) + (if pin h' c z = true ∧ h 112 c = k then h 111 c else 0) = _
  rw [a2, if_pos rfl, p0, if_neg (fun x => by cases x.1), Int.sub_zero]
  congr 1
  by_cases w : h 112 c = k ∧ (y : Int) = z
  · rw [if_pos w, if_pos ⟨decide_eq_true w.2, w.1⟩]
  · rw [if_neg w, if_neg (fun x => w ⟨x.2, of_decide_eq_true x.1⟩)]
/-- the claim c is paid by v in the year y -/
theorem Inv.pd (H : Inv S) {c v y n : Nat} (hc : (c : Int) < S.2 72 52) (hv : (v : Int) < S.2 72 40) (kv : S.2 97 v ≠ 1) (ov : ¬ (S.2 97 v = 4 ∧ S.2 102 v ≠ -1)) (hy : yr (S.2 72 2) = y) (y4 : S.2 97 v = 4 → (y : Int) = S.2 100 v) (hd : S.2 115 c = -1) (hn : S.2 72 53 = n) (hS : S'.1 = S.1)
    (hF : ∀ a, 151 ≤ a → a ≠ spA S v → a ≠ clA S c → S'.2 a = S.2 a) (hcl : ∀ a, a < 151 → a ≠ 15 → ¬ (42 ≤ a ∧ a ≤ 45 ∧ a ≠ 44) → a ≠ 72 → ¬ (115 ≤ a ∧ a ≤ 117) → S'.2 a = S.2 a) (h15 : ∀ j, j ≠ 1 → S'.2 15 j = S.2 15 j) (h42 : ∀ j : Nat, S'.2 42 j = if S.2 112 c ≠ -1 ∧ (j : Int) = S.2 112 c * 10 + y then w64 (S.2 42 j + S.2 111 c) else S.2 42 j)
    (h43 : ∀ j, j ≠ 3 → j ≠ 4 → S'.2 43 j = S.2 43 j) (h433 : S'.2 43 3 = (n : Int) + 1) (h434 : S'.2 43 4 = w64 (S.2 43 4 + S.2 111 c)) (h45 : ∀ j, S'.2 45 j = if j = n then (c : Int) else S.2 45 j) (h72 : ∀ j, j ≠ 3 → j ≠ 53 → S'.2 72 j = S.2 72 j) (h723 : S'.2 72 3 = w64 (S.2 72 3 - S.2 111 c)) (h151 : S'.2 15 1 = w64 (S.2 15 1 - S.2 111 c)) (h7253 : S'.2 72 53 = (n : Int) + 1)
    (h115 : ∀ j, S'.2 115 j = if j = c then S.2 72 2 else S.2 115 j) (h116 : ∀ j, S'.2 116 j = if j = c then (v : Int) else S.2 116 j) (h117 : ∀ j, S'.2 117 j = if j = c then (n : Int) else S.2 117 j) (hsp : ∀ j, S'.2 (spA S v) j = if j = y then w64 (S.2 (spA S v) j + S.2 111 c) else S.2 (spA S v) j) (hob : ∀ k, S'.2 (clA S c) k = if k = 7 then S.2 72 2 else if k = 8 ∨ k = 9 then (v : Int) else S.2 (clA S c) k) : Inv S' := by
  have H0 := H
  obtain ⟨i1, gt, gc, gx, gb, gp, gl, gv, gk, gu, gw, gn⟩ := H
  have hplt := paid_lt gk hc hd
  have hyN := H0.yN
  rw [hy] at hyN
  have hN := gk.1.1
  have hcN : c < nClaims S.2 := by unfold nClaims; omega
  obtain ⟨-, -, -, r4c, r5c, -⟩ := gk.1.2.2.2.1 c hc
  have C : ∀ a, a < 15 ∨ (15 < a ∧ a < 42) ∨ a = 44 ∨ (45 < a ∧ a < 72) ∨ (72 < a ∧ a < 115) ∨ (117 < a ∧ a < 151) → S'.2 a = S.2 a := fun a q => hcl a (by first | decide | omega) (by first | decide | omega) (by first | decide | omega) (by first | decide | omega) (by first | decide | omega)
  have K : ∀ k, k ≠ 3 → k ≠ 53 → S'.2 72 k = S.2 72 k := h72
  have hFx : Fx (fun a => a = spA S v ∨ a = clA S c) S S' := ⟨by rw [hS]; exact Nat.le_refl _, fun a q1 q2 => ⟨by rw [hS], fun q => hF a q1 (fun z => q (Or.inl z)) (fun z => q (Or.inr z))⟩⟩
  have hX : Xt (fun a => a = spA S v ∨ a = clA S c) S := by
    rintro a (rfl | rfl)
    · rw [(gv.2.2.2.1 v hv).2.1.2.2]
      omega
    · rw [(gk.ob hc).2.2]
      omega
  have hm : HM S.2 S'.2 := by
    unfold HM
    rw [K 4 (by decide) (by decide), K 5 (by decide) (by decide)]
    omega
  obtain ⟨hcb, hpi, hpb⟩ := pby_pd (h := S.2) (h' := S'.2) (v := v) (y := y) hcN h115 h116 (C _ (by first | decide | omega)) (C _ (by first | decide | omega)) (C _ (by first | decide | omega)) (K _ (by decide) (by decide)) hd gt.2.1 hy ov
  have hpc := pct_pd (h := S.2) (h' := S'.2) (c := c) (y := y) hcN hpi (C _ (by first | decide | omega)) (C _ (by first | decide | omega)) (K _ (by decide) (by decide)) hd
  refine ⟨by rw [hS]; exact i1, gt.fr (h15 _ (by decide)) (K _ (by decide) (by decide)), ?_, gx.fr (h15 _ (by decide)) (K _ (by decide) (by decide)), gb.fr (h15 _ (by decide)) (K _ (by decide) (by decide)) (C _ (by first | decide | omega)) (C _ (by first | decide | omega)), gp.fr (K _ (by decide) (by decide)) (K _ (by decide) (by decide)) (fun a q => C a (by first | decide | omega)), gl.fx hFx hX (fun a q => C a (by first | decide | omega)) (K _ (by decide) (by decide)) (fun t x _ q => q.cells (fun a q1 q2 => C a (by first | decide | omega))), ?_, ?_, gu.fr (K _ (by decide) (by decide)) (by rw [C 50 (by first | decide | omega)]) (by rw [C 50 (by first | decide | omega)]) (fun a q => C a (by first | decide | omega)), gw.fr (K _ (by decide) (by decide)) (K _ (by decide) (by decide)) (by rw [C 54 (by first | decide | omega)]) (by rw [C 54 (by first | decide | omega)]) (fun a q => C a (by first | decide | omega)), gn.fr (K _ (by decide) (by decide)) (K _ (by decide) (by decide)) (K _ (by decide) (by decide)) (by rw [C 63 (by first | decide | omega)]) (by rw [C 63 (by first | decide | omega)]) (by rw [C 63 (by first | decide | omega)]) (fun a q => C a (by first | decide | omega))⟩
  · unfold GC
    rw [h151, h723, gc.1]
    exact ⟨rfl, w64_i _⟩
  · obtain ⟨h1, h2, h3, h4, h5, h6, h7'⟩ := gv
    have gv0 : GV S := ⟨h1, h2, h3, h4, h5, h6, h7'⟩
    have eau : ∀ u, auA S' u = auA S u := fun u => by unfold auA; rw [C 37 (by first | decide | omega)]
    have nau : ∀ u : Nat, (u : Int) < S.2 72 40 → S'.2 (auA S u) = S.2 (auA S u) := fun u hu => hF _ (gv0.ob hu).1 (au_sp gv0 hu hv) (au_cl gv0 gk hu hc).1
    have esp : ∀ u : Nat, (u : Int) < S.2 72 40 → spA S' u = spA S u := fun u hu => by
      unfold spA
      rw [eau, nau u hu]
    have c36 := C 36 (by first | decide | omega)
    unfold GV
    rw [c36, K 40 (by decide) (by decide), K 70 (by decide) (by decide), C 38 (by first | decide | omega), C 39 (by first | decide | omega), C 40 (by first | decide | omega), C 41 (by first | decide | omega), C 124 (by first | decide | omega), C 125 (by first | decide | omega), C 126 (by first | decide | omega), C 127 (by first | decide | omega)]
    refine ⟨h1.fr (fun a q => C a (by first | decide | omega)) (fun k q => K k (by first | decide | omega) (by first | decide | omega)) hm, h2, h3, fun u hu => ?_, fun u x hu hx q => ?_, h6, fun k z hk hz => ?_⟩
    · by_cases e : u = v
      · subst e
        have A := h4 u hu
        unfold AV at A ⊢
        rw [eau, esp u hu, nau u hu, C 97 (by first | decide | omega), C 98 (by first | decide | omega), C 99 (by first | decide | omega), C 100 (by first | decide | omega), C 101 (by first | decide | omega), C 102 (by first | decide | omega), C 103 (by first | decide | omega), C 104 (by first | decide | omega), C 105 (by first | decide | omega), C 106 (by first | decide | omega), C 107 (by first | decide | omega)]
        obtain ⟨a1, a2, a3, a4, a5, a6, a7, a8, a9, a10, a11, a12, a13, a14, a15, a16⟩ := A
        refine ⟨a1.eq hS, a2.eq hS, a3, a4, a5, a6, a7, a8, a9, a10, a11, a12, a13, a14, a15.fx hFx hX (fun x q => q.cells (fun a q1 q2 => C a (by first | decide | omega))), fun z1 j hj => ?_⟩
        obtain ⟨b1, b2⟩ := a16 z1 j hj
        have hb := smC_bd gk.1 (P := fun c => pin S.2 c (j : Int) = true ∧ cby S.2 c = (u : Int)) (n := nClaims S.2) (Nat.le_refl _)
        have hb2 : 0 ≤ pby S.2 u j ∧ pby S.2 u j ≤ 300000000000 := hb
        rw [hsp j, hpb u j, b1]
        by_cases ej : j = y
        · rw [if_pos ej, if_pos ⟨rfl, by omega⟩, w64e (by first | decide | omega) (by first | decide | omega)]
          exact ⟨rfl, fun k4 ne => absurd (y4 k4) (by first | decide | omega)⟩
        · rw [if_neg ej, if_neg (fun z => ej (by have := z.2; omega)), Int.add_zero]
          exact ⟨rfl, b2⟩
      · refine ((h4 u hu).fx hFx hX ?_ ?_ (by rw [C 37 (by first | decide | omega)]) (fun a q1 q2 => by rw [C a (by first | decide | omega)]) (fun _ j _ => by rw [hpb u j, if_neg (fun z => e z.1), Int.add_zero]) (fun x q => q.cells (fun a q1 q2 => C a (by first | decide | omega)))).1
        · rintro (z | z)
          · exact au_sp gv0 hu hv z
          · exact (au_cl gv0 gk hu hc).1 z
        · rintro (z | z)
          · exact e (h5 u v hu hv (Or.inr z))
          · exact (au_cl gv0 gk hu hc).2 z
    · rw [eau, eau, esp u hu, esp x hx] at q
      exact h5 u x hu hx q
    · have hb := smC_bd gk.1 (P := fun c => pin S.2 c (z : Int) = true ∧ S.2 112 c = (k : Int)) (n := nClaims S.2) (Nat.le_refl _)
      have hb2 : 0 ≤ pct S.2 k z ∧ pct S.2 k z ≤ 300000000000 := hb
      rw [h42, hpc, h7' k z hk hz]
      by_cases q : S.2 112 c = (k : Int) ∧ (y : Int) = z
      · rw [if_pos q, if_pos ⟨by omega, by omega⟩, w64e (by first | decide | omega) (by first | decide | omega)]
      · rw [if_neg q, if_neg (fun w => q ⟨by omega, by omega⟩), Int.add_zero]
  · obtain ⟨h1, h2, h3, h4, h5, h6, h7', h8', h9', h10', h11'⟩ := gk
    have gk0 : GK S := ⟨h1, h2, h3, h4, h5, h6, h7', h8', h9', h10', h11'⟩
    have ecl : ∀ e, clA S' e = clA S e := fun e => by unfold clA; rw [C 44 (by first | decide | omega)]
    have nC : nClaims S'.2 = nClaims S.2 := by unfold nClaims; rw [K 52 (by decide) (by decide)]
    unfold GK
    rw [nC, h43 1 (by decide) (by decide), h43 9 (by decide) (by decide), h433, h434, K 52 (by decide) (by decide), h7253, K 102 (by decide) (by decide), C 46 (by first | decide | omega), C 47 (by first | decide | omega), C 48 (by first | decide | omega), C 49 (by first | decide | omega), C 111 (by first | decide | omega), C 146 (by first | decide | omega), C 147 (by first | decide | omega), C 148 (by first | decide | omega), C 149 (by first | decide | omega)]
    refine ⟨?_, h2, rfl, h4, fun e he => ?_, fun e f q1 q2 q => ?_, fun i hi => ?_, fun e he hne => ?_, ?_, h10', h11'⟩
    · obtain ⟨r1, r2, r3, r4, r5, r6⟩ := h1
      unfold RK
      rw [K 4 (by decide) (by decide), K 5 (by decide) (by decide), K 40 (by decide) (by decide), K 52 (by decide) (by decide), h7253, K 70 (by decide) (by decide), K 102 (by decide) (by decide), C 97 (by first | decide | omega), C 108 (by first | decide | omega), C 109 (by first | decide | omega), C 110 (by first | decide | omega), C 111 (by first | decide | omega), C 112 (by first | decide | omega), C 113 (by first | decide | omega), C 114 (by first | decide | omega), C 118 (by first | decide | omega), C 119 (by first | decide | omega), C 120 (by first | decide | omega), C 121 (by first | decide | omega), C 122 (by first | decide | omega), C 123 (by first | decide | omega), C 147 (by first | decide | omega), C 148 (by first | decide | omega)]
      refine ⟨r1, by omega, r3, fun e he => ?_, r5, fun f hf => ?_⟩
      · obtain ⟨s1, s2, s3, s4, s5, s6, s7, s8⟩ := r4 e he
        refine ⟨s1, s2, s3, s4, s5, s6, ?_, s8⟩
        rw [h115, h116, h117]
        by_cases q : e = c
        · rw [if_pos q, if_pos q, if_pos q]
          refine Or.inr ⟨gt.2, ⟨by omega, hv, ?_⟩, by omega, by omega⟩
          rw [Int.toNat_natCast]
          exact kv
        · rw [if_neg q, if_neg q, if_neg q]
          rcases s7 with z | ⟨z1, z2, z3, z4⟩
          · exact Or.inl z
          · exact Or.inr ⟨z1, z2, z3, by omega⟩
      · obtain ⟨⟨f1, f2, f3⟩, f4⟩ := r6 f hf
        refine ⟨⟨f1, f2, ?_⟩, f4⟩
        rw [h115]
        by_cases q : (S.2 147 f).toNat = c
        · rw [if_pos q]
          have := gt.2
          omega
        · rw [if_neg q]
          exact f3
    · have A := h5 e he
      unfold AK at A ⊢
      rw [ecl, hcb, h115, h116, C 108 (by first | decide | omega), C 109 (by first | decide | omega), C 110 (by first | decide | omega), C 111 (by first | decide | omega), C 112 (by first | decide | omega), C 113 (by first | decide | omega), C 114 (by first | decide | omega), C 118 (by first | decide | omega), C 119 (by first | decide | omega), C 120 (by first | decide | omega), C 121 (by first | decide | omega), C 122 (by first | decide | omega), C 123 (by first | decide | omega)]
      obtain ⟨b1, b2, b3, b4, b5, b6, b7, b8, b9, b10, b11, b12, b13, b14, b15, b16⟩ := A
      by_cases q : e = c
      · subst q
        rw [if_pos rfl, if_pos rfl, if_pos rfl, hob 0, hob 1, hob 2, hob 3, hob 4, hob 5, hob 6, hob 7, hob 8, hob 9, hob 10, hob 11, hob 12, hob 13, hob 14]
        exact ⟨b1.eq hS, b2, b3, b4, b5, b6, b7, b8, rfl, rfl, rfl, b12, b13, b14, b15, b16⟩
      · rw [if_neg q, if_neg q, if_neg q, hF (clA S e) (b1.1) (fun z => (au_cl gv gk0 hv he).2 z.symm) (fun z => q (h6 e c he hc z))]
        exact ⟨b1.eq hS, b2, b3, b4, b5, b6, b7, b8, b9, b10, b11, b12, b13, b14, b15, b16⟩
    · rw [ecl, ecl] at q
      exact h6 e f q1 q2 q
    · rw [h45 i]
      by_cases q : i = n
      · rw [if_pos q, Int.toNat_natCast, h115, h117, if_pos rfl, if_pos rfl]
        have := gt.2
        exact ⟨by omega, hc, by omega, by omega⟩
      · obtain ⟨z1, z2, z3, z4⟩ := h7' i (by first | decide | omega)
        have ne : (S.2 45 i).toNat ≠ c := fun w => by
          rw [w] at z3
          exact z3 hd
        rw [if_neg q, h115, h117, if_neg ne, if_neg ne]
        exact ⟨z1, z2, z3, z4⟩
    · rw [h115] at hne
      rw [h117, h45]
      by_cases q : e = c
      · rw [if_pos q, Int.toNat_natCast, if_pos rfl, q]
      · rw [if_neg q] at hne
        obtain ⟨-, -, -, -, -, -, s7, -⟩ := h1.2.2.2.1 e he
        rw [if_neg q, if_neg (by first | decide | omega)]
        exact h8' e he hne
    · have hb := smC_bd h1 (P := fun c => S.2 115 c ≠ -1) (n := nClaims S.2) (Nat.le_refl _)
      have e := sm_one (f := fun c => if S.2 115 c ≠ -1 then S.2 111 c else 0) (g := fun c => if S'.2 115 c ≠ -1 then S.2 111 c else 0) hcN (fun k _ hk => by
        show (if S'.2 115 k ≠ -1 then S.2 111 k else 0) = (if S.2 115 k ≠ -1 then S.2 111 k else 0)
        rw [h115, if_neg hk])
      have e2 : (if S.2 115 c ≠ -1 then S.2 111 c else 0) = 0 := if_neg (fun z => z hd)
      have e3 : (if S'.2 115 c ≠ -1 then S.2 111 c else 0) = S.2 111 c := by
        rw [h115, if_pos rfl]
        exact if_pos (by have := gt.2; omega)
      have e4 : sm (fun c => if S'.2 115 c ≠ -1 then S.2 111 c else 0) (nClaims S.2) = sm (fun c => if S.2 115 c ≠ -1 then S.2 111 c else 0) (nClaims S.2) - (if S.2 115 c ≠ -1 then S.2 111 c else 0) + (if S'.2 115 c ≠ -1 then S.2 111 c else 0) := e
      have hb2 : 0 ≤ sm (fun c => if S.2 115 c ≠ -1 then S.2 111 c else 0) (nClaims S.2) ∧ sm (fun c => if S.2 115 c ≠ -1 then S.2 111 c else 0) (nClaims S.2) ≤ 300000000000 := hb
      rw [e4, e2, e3, h9', Int.sub_zero]
      exact w64e (by first | decide | omega) (by first | decide | omega)
end
end
section
-- 99n.opay
/-! pay: the call -/
section
variable {L : Nat} {xs : Nat → Int} {d : Nat} {S S' T U W A : AH} {h : Nat → Nat → Int} {c : Nat}
theorem leV_inl {k : Int} : ∀ (m v : Nat) (w a : Int), leV h c k m v w = .inl a → ∃ u : Nat, a = (u : Int) ∧ u < v + m ∧ h 97 u = k ∧ barV h c u = 0 := by
  intro m
  induction m with
  | zero => intro v w a e; cases e
  | succ m ih =>
    intro v w a e
    unfold leV at e
    split at e
    · split at e
      · exact ⟨v, (Sum.inl.inj e).symm, by omega, (by assumption : _ ∧ _).1, by assumption⟩
      · obtain ⟨u, u1, u2, u3⟩ := ih _ _ _ e
        exact ⟨u, u1, by omega, u3⟩
    · obtain ⟨u, u1, u2, u3⟩ := ih _ _ _ e
      exact ⟨u, u1, by omega, u3⟩
theorem leK_cs (hn : 0 ≤ h 72 40) : ∀ (r : List Int) (w : Int), (0 ≤ w ∧ w ≤ 8) → (∀ k, k ∈ r → k ≠ 1) → (-18 ≤ leK h c r w ∧ leK h c r w ≤ -10) ∨ ∃ u : Nat, leK h c r w = (u : Int) ∧ (u : Int) < h 72 40 ∧ h 97 u ≠ 1 ∧ barV h c u = 0 := by
  intro r
  induction r with
  | nil =>
    intro w hw _
    refine Or.inl ?_
    show -18 ≤ -10 - w ∧ -10 - w ≤ -10
    omega
  | cons k r ih =>
    intro w hw hr
    have hb := leV_bd h c k (h 72 40).toNat 0 w
    have hi := leV_inl (h := h) (c := c) (k := k) (h 72 40).toNat 0 w
    rw [leK_cons]
    revert hb hi
    cases leV h c k (h 72 40).toNat 0 w with
    | inl a =>
      intro _ hi
      obtain ⟨u, u1, u2, u3, u4⟩ := hi a rfl
      refine Or.inr ⟨u, u1, by omega, ?_, u4⟩
      rw [u3]
      exact hr k (List.mem_cons_self ..)
    | inr u =>
      intro hb _
      exact ih u (hb u hw rfl) (fun q hq => hr q (List.mem_cons_of_mem _ hq))
theorem ltV_cs (hn : 0 ≤ h 72 40) : (-18 ≤ ltV h c ∧ ltV h c ≤ -10) ∨ ∃ u : Nat, ltV h c = (u : Int) ∧ (u : Int) < h 72 40 ∧ h 97 u ≠ 1 ∧ barV h c u = 0 := leK_cs hn _ 1 (by decide) (fun k hk z => by
  rw [z] at hk
  exact absurd hk (by decide))
theorem barV_0 {v : Nat} (hb : barV h c v = 0) : ofY h v (yr (h 72 2)) = true ∧ ¬ (h 97 v = 4 ∧ h 102 v ≠ -1) := by
  unfold barV at hb
  by_cases c1 : uN h (h 109 c) (h 98 v) = false ∨ ofY h v (yr (h 72 2)) = false
  · rw [if_pos c1] at hb
    cases hb
  rw [if_neg c1] at hb
  by_cases c2 : h 101 v ≠ -1 ∨ (h 97 v = 4 ∧ h 102 v ≠ -1)
  · rw [if_pos c2] at hb
    cases hb
  refine ⟨?_, fun z => c2 (Or.inr z)⟩
  by_cases z : ofY h v (yr (h 72 2)) = true
  · exact z
  · exact absurd (Or.inr (nf z)) c1
/-- what the reference needs, behind a call of the class that wrote over made objects -/
theorem Inv.irF (H : Inv S) {X : Nat → Prop} (hF : Fx X S T) (hX : Xt X S) (hc : ∀ a, (31 ≤ a ∧ a ≤ 34) ∨ (72 ≤ a ∧ a < 151) → T.2 a = S.2 a) : IR T := by
  have e72 := hc 72 (by first | decide | omega)
  have hm : HM S.2 T.2 := by
    unfold HM
    rw [e72]
    omega
  refine ⟨H.gk.1.fr (fun a q => hc a (by first | decide | omega)) (fun k _ => by rw [e72]) hm, H.gv.1.fr (fun a q => hc a (by first | decide | omega)) (fun k _ => by rw [e72]) hm, H.gp.1.fr (by rw [e72]) (by rw [e72]) (fun a q => hc a (by first | decide | omega)), H.gl.fx hF hX (fun a q => hc a (by first | decide | omega)) (by rw [e72]) (fun t x _ q => q.cells (fun a q1 q2 => hc a (by first | decide | omega))), fun v hv => ?_⟩
  rw [e72] at hv
  obtain ⟨-, -, -, -, -, -, -, -, -, -, -, -, -, -, a15, -⟩ := H.gv.2.2.2.1 v hv
  exact ⟨_, a15.fx hF hX (fun x q => q.cells (fun a q1 q2 => hc a (by first | decide | omega)))⟩
/-- of a contract more is paid -/
theorem x_conP {m y : Nat} {ct s : Int} (h36 : T.2 36 7 = m) (hm : m ≤ 20) (hct : -1 ≤ ct ∧ ct < m) (hy : y < 10) : ∃ U, ev (WK L xs) (d + 2) 177 [vr 36, vi ct, vi (y : Int), vi s] T = some (0, U) ∧ U.1 = T.1 ∧ (∀ a, a ≠ 42 → U.2 a = T.2 a) ∧ ∀ j : Nat, U.2 42 j = if ct ≠ -1 ∧ (j : Int) = ct * 10 + y then w64 (T.2 42 j + s) else T.2 42 j := by
  have h172 : ev (WK L xs) (d + 1) 172 [vr 36, vi ct] T = some (bi (0 ≤ ct ∧ ct < (m : Int)), T) := by
    rw [q_172, h36, rng]
  by_cases c1 : ct = -1
  · refine ⟨T, ?_, rfl, fun _ _ => rfl, fun j => ?_⟩
    · rw [q_177, h172, bR]
      simp only [bi_0]
      rw [if_pos (by first | decide | omega)]
    · rw [if_neg (fun z => z.1 c1)]
  · obtain ⟨k, hk⟩ := Int.eq_ofNat_of_zero_le (show 0 ≤ ct by omega)
    subst hk
    have e : w32 (w32 ((k : Int) * 10) + (y : Int)) = ((k * 10 + y : Nat) : Int) := by
      rw [w32e (x := (k : Int) * 10) (by first | decide | omega) (by first | decide | omega), w32e (by first | decide | omega) (by first | decide | omega)]
      omega
    have q : (0 : Int) ≤ ((k * 10 + y : Nat) : Int) ∧ ((k * 10 + y : Nat) : Int) < 200 := by omega
    refine ⟨wr T 42 (k * 10 + y) (w64 (T.2 42 (k * 10 + y) + s)), ?_, rfl, fun a ha => wr_c ha, fun j => ?_⟩
    · rw [q_177, h172, bR]
      simp only [bi_0]
      rw [if_neg (fun z => z (by first | decide | omega)), x_isYear, bR]
      simp only [bi_0]
      rw [if_neg (fun z => z (by first | decide | omega)), e, if_pos q, if_pos q, Int.toNat_natCast]
    · rw [wr_f]
      by_cases z : j = k * 10 + y
      · rw [if_pos z, if_pos ⟨c1, by omega⟩, z]
      · rw [if_neg z, if_neg (fun w => z (by have := w.2; omega))]
/-- the claim is marked as paid -/
theorem x_markP {o n v : Nat} (ho : isO T o 12 15) (h80 : ∀ dd, ev (WK L xs) (dd + 1) 80 [vr 43, vi (c : Int)] T = some ((o : Int), T)) (hn : T.2 43 3 = n) (hn3 : n < 300) (day : Int) : ∃ U, ev (WK L xs) (d + 2) 84 [vr 43, vi (c : Int), vi (v : Int), vi day] T = some (0, U) ∧ U.1 = T.1 ∧ (∀ a, a ≠ o → a ≠ 43 → a ≠ 45 → U.2 a = T.2 a) ∧ (∀ k, U.2 o k = if k = 7 then day else if k = 8 ∨ k = 9 then (v : Int) else T.2 o k) ∧ (∀ j, j ≠ 3 → j ≠ 4 → U.2 43 j = T.2 43 j) ∧ U.2 43 3 = (n : Int) + 1 ∧ U.2 43 4 = w64 (T.2 43 4 + T.2 o 3) ∧ ∀ j, U.2 45 j = if j = n then (c : Int) else T.2 45 j := by
  have h5 := ho.1
  have n43 : o ≠ 43 := by omega
  have n45 : o ≠ 45 := by omega
  have m43 : 43 ≠ o := by omega
  have m45 : 45 ≠ o := by omega
  have g0 : ∀ (X : AH) (k : Nat) (r : Rs), X.1 = T.1 → gd (Nat.beq (shp (WK L xs) X o).1 12 && wok (WK L xs) o k) r = r := fun X k r e => k12w (S := X) (ho.eq e) r
  have g1 : ∀ (X : AH) (r : Rs), X.1 = T.1 → gd (Nat.beq (shp (WK L xs) X o).1 12) r = r := fun X r e => k12 (S := X) (ho.eq e) r
  have hk : ∀ k, k ≠ 7 → k ≠ 8 → k ≠ 9 → (wr (wr (wr T o 7 day) o 8 (v : Int)) o 9 (v : Int)).2 o k = T.2 o k := fun k q1 q2 q3 => by rw [wr_f, if_neg q3, wr_f, if_neg q2, wr_f, if_neg q1]
  have h43 : (wr (wr (wr T o 7 day) o 8 (v : Int)) o 9 (v : Int)).2 43 = T.2 43 := by rw [wr_c m43, wr_c m43, wr_c m43]
  have h45 : (wr (wr (wr T o 7 day) o 8 (v : Int)) o 9 (v : Int)).2 45 = T.2 45 := by rw [wr_c m45, wr_c m45, wr_c m45]
  have go := q_84 L xs (d + 1) T (c : Int) (v : Int) day
  rw [h80, bR, Int.toNat_natCast, if_neg (by first | decide | omega), g14 ho, hn, if_pos (by first | decide | omega), g0 T 7 _ rfl, g0 (wr T o 7 day) 8 _ rfl, g0 (wr (wr T o 7 day) o 8 (v : Int)) 9 _ rfl, h43, hn, if_pos (by first | decide | omega), Int.toNat_natCast, g1 (wr (wr (wr (wr (wr T o 7 day) o 8 (v : Int)) o 9 (v : Int)) 45 n (c : Int)) 43 3 (w32 ((n : Int) + 1))) _ rfl, rdvD h5, wr_c n43, wr_c n45, hk 3 (by decide) (by decide) (by decide), w32e (by first | decide | omega) (by first | decide | omega)] at go
  refine ⟨_, go, rfl, fun a q1 q2 q3 => ?_, fun k => ?_, fun j q1 q2 => ?_, ?_, ?_, fun j => ?_⟩
  · rw [wr_c q2, wr_c q2, wr_c q3, wr_c q1, wr_c q1, wr_c q1]
  · rw [wr_c n43, wr_c n43, wr_c n45, wr_f, wr_f, wr_f]
    by_cases e7 : k = 7
    · rw [if_pos e7, if_neg (by first | decide | omega), if_neg (by first | decide | omega), if_pos e7]
    · rw [if_neg e7, if_neg e7]
      by_cases e9 : k = 9
      · rw [if_pos e9, if_pos (Or.inr e9)]
      · rw [if_neg e9]
        by_cases e8 : k = 8
        · rw [if_pos e8, if_pos (Or.inl e8)]
        · rw [if_neg e8, if_neg (show ¬ (k = 8 ∨ k = 9) by omega)]
  · rw [wr_f, if_neg q2, wr_f, if_neg q1, wr_c (by decide), h43]
  · rw [wr_f, if_neg (by decide), wr_f, if_pos rfl]
  · rw [wr_f, if_pos rfl]
  · rw [wr_c (by decide), wr_c (by decide), wr_f]
    by_cases e : j = n
    · rw [if_pos e, if_pos e]
    · rw [if_neg e, if_neg e, h45]
/-- the class pays the claim c by v -/
theorem x_payD (H : Inv S) {v y n : Nat} (hc : (c : Int) < S.2 72 52) (hv : (v : Int) < S.2 72 40) (hy : yr (S.2 72 2) = y) (hn : S.2 72 53 = n) (hn3 : n < 300) (hd : S.2 115 c = -1) (hlt : ltV S.2 c = (v : Int)) (hch : ¬ S.2 72 3 < S.2 111 c) : ∃ Z, ev (WK L xs) 200 32 [vr 15, vi (c : Int)] S = some ((v : Int), Z) ∧ Z.1 = S.1 ∧ (∀ a, 151 ≤ a → a ≠ spA S v → a ≠ clA S c → Z.2 a = S.2 a) ∧ (∀ a, a < 151 → a ≠ 15 → a ≠ 22 → a ≠ 26 → a ≠ 35 → ¬ (42 ≤ a ∧ a ≤ 45 ∧ a ≠ 44) → Z.2 a = S.2 a) ∧ (∀ j, j ≠ 1 → Z.2 15 j = S.2 15 j) ∧ (∀ j : Nat, Z.2 42 j = if S.2 112 c ≠ -1 ∧ (j : Int) = S.2 112 c * 10 + y then w64 (S.2 42 j + S.2 111 c) else S.2 42 j) ∧
    (∀ j, j ≠ 3 → j ≠ 4 → Z.2 43 j = S.2 43 j) ∧ Z.2 43 3 = (n : Int) + 1 ∧ Z.2 43 4 = w64 (S.2 43 4 + S.2 111 c) ∧ (∀ j, Z.2 45 j = if j = n then (c : Int) else S.2 45 j) ∧ Z.2 15 1 = w64 (S.2 15 1 - S.2 111 c) ∧ (∀ j, Z.2 (spA S v) j = if j = y then w64 (S.2 (spA S v) j + S.2 111 c) else S.2 (spA S v) j) ∧ (∀ k, Z.2 (clA S c) k = if k = 7 then S.2 72 2 else if k = 8 ∨ k = 9 then (v : Int) else S.2 (clA S c) k) := by
  have gk := H.gk
  have gv := H.gv
  have ht := H.gt.1
  have hyN := H.yN
  rw [hy] at hyN
  have ho := gk.ob hc
  have h5 := ho.1
  have hau := gv.ob hv
  have hcn := gv.1.2.2.2.1
  obtain ⟨s1, s2, -⟩ := gv.2.2.2.1 v hv
  obtain ⟨b1, b2, b3, b4, b5, b6, b7, b8, b9, -⟩ := gk.2.2.2.2.1 c hc
  obtain ⟨-, -, -, -, r5, -⟩ := gk.1.2.2.2.1 c hc
  obtain ⟨U, u1, u2⟩ := x_who (L := L) (xs := xs) (d := 127) H hc
  rw [hlt] at u1
  have HU := u2.inv H
  have hvU : (v : Int) < U.2 72 40 := by rw [u2.hi 72 (by decide)]; exact hv
  have eAu : auA U v = auA S v := by unfold auA; rw [u2.hi 37 (by decide)]
  have xau := x_au (L := L) (xs := xs) (d := 198) HU.gv hvU
  rw [eAu] at xau
  have oU : isO U (clA S c) 12 15 := ho.eq u2.1
  have aU : isO U (auA S v) 11 14 := hau.eq u2.1
  have pU : isO U (spA S v) 3 10 := s2.eq u2.1
  have n1 : spA S v ≠ clA S c := (au_cl gv gk hv hc).2
  have n2 : auA S v ≠ spA S v := au_sp gv hv hv
  have n3 : auA S v ≠ clA S c := (au_cl gv gk hv hc).1
  have p150 := s2.1
  have a150 := s1.1
  have eO : U.2 (clA S c) = S.2 (clA S c) := u2.hi _ (by first | decide | omega)
  have U15 : U.2 15 = S.2 15 := u2.2.1 15 (by decide) (by decide) (by decide)
  -- the chest
  obtain ⟨X1, hX1⟩ : ∃ X1, X1 = wr U 15 1 (w64 (S.2 15 1 - S.2 111 c)) := ⟨_, rfl⟩
  have X1a : X1.1 = U.1 := by rw [hX1]; rfl
  have X1c : ∀ a, a ≠ 15 → X1.2 a = U.2 a := fun a q => by rw [hX1, wr_c q]
  have X1f : ∀ j, j ≠ 1 → X1.2 15 j = S.2 15 j := fun j q => by rw [hX1, wr_f, if_neg q, U15]
  have X1g : X1.2 15 1 = w64 (S.2 15 1 - S.2 111 c) := by rw [hX1, wr_f, if_pos rfl]
  have oX1 : isO X1 (clA S c) 12 15 := oU.eq X1a
  have aX1 : isO X1 (auA S v) 11 14 := aU.eq X1a
  have X1o : X1.2 (clA S c) = S.2 (clA S c) := by rw [X1c _ (by first | decide | omega), eO]
  -- what it takes up
  have sp := x_spend (L := L) (xs := xs) (d := 197) (S := X1) (o := auA S v) (p := spA S v) aX1 (pU.eq X1a) (by rw [X1c _ (by first | decide | omega), u2.hi _ (by first | decide | omega)]; rfl) (y := y) (by first | decide | omega) (S.2 111 c)
  obtain ⟨X2, hX2⟩ : ∃ X2, X2 = wr X1 (spA S v) y (w64 (X1.2 (spA S v) y + S.2 111 c)) := ⟨_, rfl⟩
  rw [← hX2] at sp
  have X2a : X2.1 = U.1 := by rw [hX2]; exact X1a
  have X2c : ∀ a, a ≠ spA S v → X2.2 a = X1.2 a := fun a q => by rw [hX2, wr_c q]
  have oX2 : isO X2 (clA S c) 12 15 := oU.eq X2a
  have X2o : X2.2 (clA S c) = S.2 (clA S c) := by rw [X2c _ n1.symm, X1o]
  have X2n : X2.2 15 0 = S.2 72 2 := by rw [X2c 15 (by first | decide | omega), X1f 0 (by decide), ht]
  -- the contract
  obtain ⟨m, hm⟩ := Int.eq_ofNat_of_zero_le hcn.1
  obtain ⟨X3, c1, c2, c3, c4⟩ := x_conP (L := L) (xs := xs) (d := 197) (T := X2) (m := m) (y := y) (ct := S.2 112 c) (s := S.2 111 c) (by rw [X2c 36 (by first | decide | omega), X1c 36 (by decide), u2.hi 36 (by decide), gv.2.2.1, hm]) (by first | decide | omega) (by first | decide | omega) (by first | decide | omega)
  have X3a : X3.1 = U.1 := c2.trans X2a
  have oX3 : isO X3 (clA S c) 12 15 := oU.eq X3a
  have X3c : ∀ a, a ≠ 42 → a ≠ spA S v → a ≠ 15 → X3.2 a = U.2 a := fun a q1 q2 q3 => by rw [c3 a q1, X2c a q2, X1c a q3]
  have X3n : X3.2 15 0 = S.2 72 2 := by rw [c3 15 (by decide), X2n]
  have h80 : ∀ dd, ev (WK L xs) (dd + 1) 80 [vr 43, vi (c : Int)] X3 = some ((clA S c : Int), X3) := fun dd => by
    have e43 : X3.2 43 = S.2 43 := by rw [X3c 43 (by decide) (by first | decide | omega) (by decide), u2.hi 43 (by decide)]
    have e44 : X3.2 44 = S.2 44 := by rw [X3c 44 (by decide) (by first | decide | omega) (by decide), u2.hi 44 (by decide)]
    have := gk.n
    rw [q_80, e43, gk.2.1, if_neg (by first | decide | omega), if_pos hc, if_pos (by first | decide | omega), Int.toNat_natCast, e44]
    rfl
  obtain ⟨Z, z1, z2, z3, z4, z5, z6, z7, z8⟩ := x_markP (L := L) (xs := xs) (d := 197) (T := X3) (c := c) (o := clA S c) (n := n) (v := v) oX3 h80 (by rw [X3c 43 (by decide) (by first | decide | omega) (by decide), u2.hi 43 (by decide), gk.2.2.1, hn]) hn3 (S.2 72 2)
  have X3o : X3.2 (clA S c) = S.2 (clA S c) := by rw [c3 _ (by first | decide | omega), X2o]
  refine ⟨Z, ?_, z2.trans (X3a.trans u2.1), fun a q1 q2 q3 => ?_, fun a q1 q2 q3 q4 q5 q6 => ?_, fun j q => ?_, fun j => ?_, fun j q1 q2 => ?_, z6, ?_, fun j => ?_, ?_, fun j => ?_, fun k => ?_⟩
  · have hch2 : ¬ S.2 15 1 < S.2 111 c := by rw [H.gc.1]; exact hch
    rw [q_32, x_cl gk hc, bR, Int.toNat_natCast, if_neg (by first | decide | omega), g14 ho, k12a ho, x_isPaid ho, bR, b9]
    simp only [bi_0]
    rw [if_pos (fun z => z hd), show ev (WK L xs) 199 28 [vr 15, vr (clA S c)] S = _ from u1, bR, show ev (WK L xs) 199 168 [vr 36, vi (v : Int)] U = _ from xau, bR, Int.toNat_natCast, if_neg (by first | decide | omega), g14a aU, k12 oU, rdvD h5, eO, b5, U15]
    simp only [lc_lt]
    rw [if_neg hch2, k12 oU, ht, ← hX1, x_yearOf, hy, bR, k12 oX1, k11a aX1, rdvD h5, X1o, b5, show ev (WK L xs) 199 72 [vr (auA S v), vi (y : Int), vl (S.2 111 c)] X1 = some (0, X2) from sp, bR, k12 oX2, X2n, x_yearOf, hy, bR, k12 oX2, rdvD h5, rdvD h5, X2o, b5, b6, show ev (WK L xs) 199 177 [vr 36, vi (S.2 112 c), vi (y : Int), vi (S.2 111 c)] X2 = some (0, X3) from c1, bR, X3n, show ev (WK L xs) 199 84 [vr 43, vi (c : Int), vi (v : Int), vi (S.2 72 2)] X3 = some (0, Z) from z1, bR]
  · rw [z3 a q3 (by first | decide | omega) (by first | decide | omega), X3c a (by first | decide | omega) q2 (by first | decide | omega), u2.hi a (by first | decide | omega)]
  · rw [z3 a (by first | decide | omega) (by first | decide | omega) (by first | decide | omega), X3c a (by first | decide | omega) (by first | decide | omega) q2, u2.2.1 a q3 q4 q5]
  · rw [z3 15 (by first | decide | omega) (by decide) (by decide), c3 15 (by decide), X2c 15 (by first | decide | omega), X1f j q]
  · rw [z3 42 (by first | decide | omega) (by decide) (by decide), c4 j, X2c 42 (by first | decide | omega), X1c 42 (by decide), u2.hi 42 (by decide)]
  · rw [z5 j q1 q2, X3c 43 (by decide) (by first | decide | omega) (by decide), u2.hi 43 (by decide)]
  · rw [z7, X3o, b5, X3c 43 (by decide) (by first | decide | omega) (by decide), u2.hi 43 (by decide)]
  · rw [z8 j, X3c 45 (by decide) (by first | decide | omega) (by decide), u2.hi 45 (by decide)]
  · rw [z3 15 (by first | decide | omega) (by decide) (by decide), c3 15 (by decide), X2c 15 (by first | decide | omega), X1g]
  · rw [z3 _ n1 (by first | decide | omega) (by first | decide | omega), c3 _ (by first | decide | omega), hX2, wr_f, X1c _ (by first | decide | omega), u2.hi _ (by first | decide | omega)]
    by_cases e : j = y
    · rw [if_pos e, if_pos e, e]
    · rw [if_neg e, if_neg e]
  · rw [z4 k, X3o]
theorem o_pay (H : Inv S) (p : Int) : Ok L xs 32 271 [vi p] S := by
  have gk := H.gk
  have gv := H.gv
  have hn := gk.n
  by_cases hp : 0 ≤ p ∧ p < S.2 72 52
  rotate_left
  · refine Ok.same (r := -1) H ?_ ?_
    · rw [q_32, x_cl0 gk hp, bR, if_pos (by decide)]
    · rw [q_271, m_isClaim gk.1, bR]
      simp only [bi_0]
      rw [if_pos hp]
  obtain ⟨c, hc⟩ := Int.eq_ofNat_of_zero_le hp.1
  subst hc
  have ho := gk.ob hp.2
  have h5 := ho.1
  obtain ⟨a1, a2, a3, a4, a5, a6, a7, a8, a9, -⟩ := gk.2.2.2.2.1 c hp.2
  have qc : (0 : Int) ≤ (c : Int) ∧ (c : Int) < 300 := by omega
  by_cases hd : S.2 115 c = -1
  rotate_left
  · refine Ok.same (r := -1) H ?_ ?_
    · rw [q_32, x_cl gk hp.2, bR, Int.toNat_natCast, if_neg (by first | decide | omega), g14 ho, k12a ho, x_isPaid ho, bR, a9]
      simp only [bi_0]
      rw [if_neg (fun z => z hd)]
    · rw [q_271, m_isClaim gk.1, bR]
      simp only [bi_0]
      rw [if_neg (fun z => z hp), if_pos qc, Int.toNat_natCast, if_neg hd]
  -- the class's way to one who lets
  have xgo : ∀ U : AH, ev (WK L xs) 199 28 [vr 15, vr (clA S c)] S = some (ltV S.2 c, U) → ev (WK L xs) 200 32 [vr 15, vi (c : Int)] S = bindR (ev (WK L xs) 199 168 [vr 36, vi (ltV S.2 c)] U) (fun r7 S8 => (if r7.toNat = 0 then (some (ltV S.2 c, S8)) else (gd (!(Nat.beq r7.toNat 14)) (gd (Nat.beq (shp (WK L xs) S8 (clA S c)).1 12) (if (lcmp (S8.2 15 1) (rdv (WK L xs) S8 (clA S c) 3)) < 0 then (some ((-9 : Int), S8)) else (gd (Nat.beq (shp (WK L xs) S8 (clA S c)).1 12) (bindR (ev (WK L xs) 199 17 [vi (S8.2 15 0)] (wr S8 15 1 (w64 ((S8.2 15 1) - (rdv (WK L xs) S8 (clA S c) 3))))) (fun r9 S10 => (gd (Nat.beq (shp (WK L xs) S10 (clA S c)).1 12) (gd (Nat.beq (shp (WK L xs) S10 r7.toNat).1 11 && Nat.ble 0 8) (bindR (ev (WK L xs) 199 72 [vr r7.toNat, vi r9, vl (rdv (WK L xs) S10 (clA S c) 3)] S10) (fun r11 S12 => (gd (Nat.beq (shp (WK L xs) S12 (clA S c)).1 12) (bindR (ev (WK L xs) 199 17 [vi (S12.2 15 0)] S12) (fun r13 S14 => (gd (Nat.beq (shp (WK L xs) S14 (clA S c)).1 12) (bindR (ev (WK L xs) 199 177 [vr 36, vi (rdv (WK L xs) S12 (clA S c) 4), vi r13, vi (rdv (WK L xs) S14 (clA S c) 3)] S14) (fun r15 S16 => (bindR (ev (WK L xs) 199 84 [vr 43, vi (c : Int), vi (ltV S.2 c), vi (S16.2 15 0)] S16) (fun r17 S18 => (some (ltV S.2 c, S18)))))))))))))))))))))) := by
    intro U u1
    rw [q_32, x_cl gk hp.2, bR, Int.toNat_natCast, if_neg (by first | decide | omega), g14 ho, k12a ho, x_isPaid ho, bR, a9]
    simp only [bi_0]
    rw [if_pos (fun z => z hd), u1, bR]
  -- the reference's
  have mgo : ∀ (B V : AH) (r : Int), (∀ a, 72 ≤ a → a < 151 → B.2 a = S.2 a) → RK B.2 → ev (WK L xs) 199 261 [vr 72, vi (c : Int)] B = some (r, V) → Wf B V → ev (WK L xs) 200 271 [vr 72, vi (c : Int)] B = (if r < 0 then some (r, V) else if S.2 72 3 < S.2 111 c then some (-9, V) else some (r, wr (wr (wr (wr (wr V 72 3 (w64 (S.2 72 3 - S.2 111 c))) 115 c (S.2 72 2)) 116 c r) 117 c (S.2 72 53)) 72 53 (w32 (S.2 72 53 + 1)))) := by
    intro B V r hB rk hv1 hW
    have V72 : ∀ k, k ≠ 75 → k ≠ 76 → V.2 72 k = S.2 72 k := fun k q1 q2 => by rw [hW.2.2 k q1 q2, hB 72 (by decide) (by decide)]
    have V111 : V.2 111 = S.2 111 := by rw [hW.2.1 111 (by decide) (by decide) (by decide) (by decide), hB 111 (by decide) (by decide)]
    rw [q_271, m_isClaim rk, bR, hB 72 (by decide) (by decide)]
    simp only [bi_0, lc_lt]
    rw [if_neg (fun z => z hp), if_pos qc, Int.toNat_natCast, hB 115 (by decide) (by decide), if_pos hd, hv1, bR, V72 3 (by decide) (by decide), V111, V72 2 (by decide) (by decide), V72 53 (by decide) (by decide)]
    simp only [if_pos qc]
  obtain ⟨U, u1, u2⟩ := x_who (L := L) (xs := xs) (d := 127) H hp.2
  have u1' : ev (WK L xs) 199 28 [vr 15, vr (clA S c)] S = some (ltV S.2 c, U) := u1
  have HU := u2.inv H
  have U15 : U.2 15 = S.2 15 := u2.2.1 15 (by decide) (by decide) (by decide)
  obtain ⟨V, v1, v2⟩ := m_lets (L := L) (xs := xs) (d := 190) HU.ir (c := c) (by rw [u2.hi 72 (by decide)]; exact hp.2)
  rw [u2.wh.lt] at v1
  have mU := mgo U V (ltV S.2 c) (fun a q1 _ => u2.hi a (by first | decide | omega)) HU.gk.1 v1 v2
  rcases ltV_cs (h := S.2) (c := c) gv.1.1.1 with hlt | ⟨v, hlt, hv, kv, bv⟩
  · -- none lets
    refine ⟨ltV S.2 c, U, V, ?_, ?_, v2.inv HU, Gw.of (v2.1.trans u2.1)⟩
    · rw [xgo U u1', x_au0 HU.gv (by first | decide | omega), bR, if_pos (by decide)]
    · rw [mU, if_pos (by first | decide | omega)]
  by_cases hch : S.2 72 3 < S.2 111 c
  · -- the chest has not so much
    have hvU : (v : Int) < U.2 72 40 := by rw [u2.hi 72 (by decide)]; exact hv
    have eAu : auA U v = auA S v := by unfold auA; rw [u2.hi 37 (by decide)]
    have xau := x_au (L := L) (xs := xs) (d := 198) HU.gv hvU
    rw [eAu] at xau
    have aU : isO U (auA S v) 11 14 := (gv.ob hv).eq u2.1
    have a150 := aU.1
    have oU : isO U (clA S c) 12 15 := ho.eq u2.1
    refine ⟨-9, U, V, ?_, ?_, v2.inv HU, Gw.of (v2.1.trans u2.1)⟩
    · rw [xgo U u1', hlt, show ev (WK L xs) 199 168 [vr 36, vi (v : Int)] U = _ from xau, bR, Int.toNat_natCast, if_neg (by first | decide | omega), g14a aU, k12 oU, rdvD h5, u2.hi (clA S c) (by first | decide | omega), a5, U15, H.gc.1]
      simp only [lc_lt]
      rw [if_pos hch]
    · rw [mU, hlt, if_neg (by first | decide | omega), if_pos hch]
  -- it is paid
  have hyN := H.yN
  obtain ⟨y, hy⟩ := Int.eq_ofNat_of_zero_le hyN.1
  obtain ⟨n, hnn⟩ := Int.eq_ofNat_of_zero_le gk.1.2.1.1
  have hpl := paid_lt gk hp.2 hd
  have hn3 : n < 300 := by omega
  obtain ⟨ofv, ov⟩ := barV_0 bv
  have y4 : S.2 97 v = 4 → (y : Int) = S.2 100 v := fun k4 => by
    unfold ofY at ofv
    rw [if_neg kv, if_neg (by rw [k4]; decide)] at ofv
    rw [← hy]
    exact of_decide_eq_true ofv
  obtain ⟨Z, z0, z1, z2, z3, z4, z5, z6, z7, z8, z9, z10, z11, z12⟩ := x_payD (L := L) (xs := xs) H hp.2 hv hy hnn hn3 hd hlt hch
  have Zr : ∀ a, 72 ≤ a → a < 151 → Z.2 a = S.2 a := fun a q1 q2 => z3 a q2 (by first | decide | omega) (by first | decide | omega) (by first | decide | omega) (by first | decide | omega) (by first | decide | omega)
  have n1 : spA S v ≠ clA S c := (au_cl gv gk hv hp.2).2
  have p150 := (gv.2.2.2.1 v hv).2.1.1
  have irZ : IR Z := H.irF (X := fun a => a = spA S v ∨ a = clA S c) ⟨by rw [z1]; exact Nat.le_refl _, fun a q1 q2 => ⟨by rw [z1], fun q => z2 a q1 (fun z => q (Or.inl z)) (fun z => q (Or.inr z))⟩⟩ (by
    rintro a (rfl | rfl)
    · rw [(gv.2.2.2.1 v hv).2.1.2.2]
      omega
    · rw [ho.2.2]
      omega) (fun a q => z3 a (by first | decide | omega) (by first | decide | omega) (by first | decide | omega) (by first | decide | omega) (by first | decide | omega) (by first | decide | omega))
  have whZ : Wh S.2 Z.2 := ⟨fun a q1 q2 _ _ _ => Zr a (by first | decide | omega) q2, fun k _ _ => by rw [Zr 72 (by decide) (by decide)]⟩
  obtain ⟨V, v1, v2⟩ := m_lets (L := L) (xs := xs) (d := 190) irZ (c := c) (by rw [Zr 72 (by decide) (by decide)]; exact hp.2)
  rw [whZ.lt, hlt] at v1
  have mZ := mgo Z V (v : Int) Zr irZ.rk v1 v2
  rw [if_neg (by first | decide | omega), if_neg hch] at mZ
  generalize hF : wr (wr (wr (wr (wr V 72 3 (w64 (S.2 72 3 - S.2 111 c))) 115 c (S.2 72 2)) 116 c (v : Int)) 117 c (S.2 72 53)) 72 53 (w32 (S.2 72 53 + 1)) = F at mZ
  have F1 : F.1 = S.1 := by rw [← hF]; exact v2.1.trans z1
  have Fc : ∀ a, a ≠ 72 → a ≠ 96 → (a < 115 ∨ (117 < a ∧ a < 128) ∨ 129 < a) → F.2 a = Z.2 a := fun a q1 q2 q3 => by rw [← hF, wr_c q1, wr_c (by first | decide | omega), wr_c (by first | decide | omega), wr_c (by first | decide | omega), wr_c q1, v2.2.1 a q1 q2 (by first | decide | omega) (by first | decide | omega)]
  have F72 : ∀ j, j ≠ 3 → j ≠ 53 → j ≠ 75 → j ≠ 76 → F.2 72 j = S.2 72 j := fun j q1 q2 q3 q4 => by rw [← hF, wr_f, if_neg q2, wr_c (by decide), wr_c (by decide), wr_c (by decide), wr_f, if_neg q1, v2.2.2 j q3 q4, Zr 72 (by decide) (by decide)]
  obtain ⟨Q, hQ⟩ : ∃ Q : AH, Q = (S.1, fun a k => if a = 22 ∨ a = 26 ∨ a = 35 ∨ a = 96 ∨ a = 128 ∨ a = 129 ∨ (a = 72 ∧ (k = 75 ∨ k = 76)) then F.2 a k else S.2 a k) := ⟨_, rfl⟩
  have Q1 : Q.1 = S.1 := by rw [hQ]
  have Q2 : ∀ a k, Q.2 a k = if a = 22 ∨ a = 26 ∨ a = 35 ∨ a = 96 ∨ a = 128 ∨ a = 129 ∨ (a = 72 ∧ (k = 75 ∨ k = 76)) then F.2 a k else S.2 a k := fun a k => by rw [hQ]
  have Qc : ∀ a, a ≠ 22 → a ≠ 26 → a ≠ 35 → a ≠ 72 → a ≠ 96 → a ≠ 128 → a ≠ 129 → Q.2 a = S.2 a := fun a q1 q2 q3 q4 q5 q6 q7 => by
    funext k
    rw [Q2, if_neg (by first | decide | omega)]
  have Q72 : ∀ k, k ≠ 75 → k ≠ 76 → Q.2 72 k = S.2 72 k := fun k q1 q2 => by rw [Q2, if_neg (by first | decide | omega)]
  have HQ : Inv Q := H.scr ⟨by rw [Q1]; exact Nat.le_refl _, fun a q1 _ => ⟨by rw [Q1], Qc a (by first | decide | omega) (by first | decide | omega) (by first | decide | omega) (by first | decide | omega) (by first | decide | omega) (by first | decide | omega) (by first | decide | omega)⟩⟩ (fun a k q1 q2 => by
    unfold scr at q2
    rw [Q2, if_neg (by first | decide | omega)])
  have eSp : spA Q v = spA S v := by
    unfold spA auA
    rw [Qc 37 (by decide) (by decide) (by decide) (by decide) (by decide) (by decide) (by decide)]
    have := (gv.ob hv).1
    unfold auA at this
    rw [Qc _ (by first | decide | omega) (by first | decide | omega) (by first | decide | omega) (by first | decide | omega) (by first | decide | omega) (by first | decide | omega) (by first | decide | omega)]
  have eCl : clA Q c = clA S c := by
    unfold clA
    rw [Qc 44 (by decide) (by decide) (by decide) (by decide) (by decide) (by decide) (by decide)]
  have QC : ∀ a, a < 15 ∨ (35 < a ∧ a < 72) ∨ (72 < a ∧ a < 96) ∨ (96 < a ∧ a < 128) ∨ 129 < a → Q.2 a = S.2 a := fun a q => Qc a (by first | decide | omega) (by first | decide | omega) (by first | decide | omega) (by first | decide | omega) (by first | decide | omega) (by first | decide | omega) (by first | decide | omega)
  have Q15 : Q.2 15 = S.2 15 := Qc 15 (by decide) (by decide) (by decide) (by decide) (by decide) (by decide) (by decide)
  refine ⟨v, Z, F, z0, mZ, ?_, Gw.of F1⟩
  refine HQ.pd (c := c) (v := v) (y := y) (n := n) ?_ ?_ ?_ ?_ ?_ ?_ ?_ ?_ (by rw [F1, Q1]) (fun a q1 q2 q3 => ?_) (fun a q1 q2 q3 q4 q5 => ?_) (fun j q => ?_) (fun j => ?_) (fun j q1 q2 => ?_) ?_ ?_ (fun j => ?_) (fun j q1 q2 => ?_) ?_ ?_ ?_ (fun j => ?_) (fun j => ?_) (fun j => ?_) (fun j => ?_) (fun k => ?_)
  · rw [Q72 52 (by decide) (by decide)]
    exact hp.2
  · rw [Q72 40 (by decide) (by decide)]
    exact hv
  · rw [QC 97 (by first | decide | omega)]
    exact kv
  · rw [QC 97 (by first | decide | omega), QC 102 (by first | decide | omega)]
    exact ov
  · rw [Q72 2 (by decide) (by decide)]
    exact hy
  · rw [QC 97 (by first | decide | omega), QC 100 (by first | decide | omega)]
    exact y4
  · rw [QC 115 (by first | decide | omega)]
    exact hd
  · rw [Q72 53 (by decide) (by decide)]
    exact hnn
  · rw [eSp] at q2
    rw [eCl] at q3
    rw [Fc a (by first | decide | omega) (by first | decide | omega) (by first | decide | omega), z2 a q1 q2 q3, QC a (by first | decide | omega)]
  · by_cases e : a = 22 ∨ a = 26 ∨ a = 35 ∨ a = 96 ∨ a = 128 ∨ a = 129
    · funext k
      rw [Q2, if_pos (by first | decide | omega)]
    · rw [Fc a (by first | decide | omega) (by first | decide | omega) (by first | decide | omega), z3 a q1 q2 (by first | decide | omega) (by first | decide | omega) (by first | decide | omega) q3, Qc a (by first | decide | omega) (by first | decide | omega) (by first | decide | omega) q4 (by first | decide | omega) (by first | decide | omega) (by first | decide | omega)]
  · rw [Fc 15 (by decide) (by decide) (by decide), z4 j q, Q15]
  · rw [Fc 42 (by decide) (by decide) (by decide), z5 j, QC 112 (by first | decide | omega), QC 111 (by first | decide | omega), QC 42 (by first | decide | omega)]
  · rw [Fc 43 (by decide) (by decide) (by decide), z6 j q1 q2, QC 43 (by first | decide | omega)]
  · rw [Fc 43 (by decide) (by decide) (by decide), z7]
  · rw [Fc 43 (by decide) (by decide) (by decide), z8, QC 43 (by first | decide | omega), QC 111 (by first | decide | omega)]
  · rw [Fc 45 (by decide) (by decide) (by decide), z9 j, QC 45 (by first | decide | omega)]
  · by_cases e : j = 75 ∨ j = 76
    · rw [Q2, if_pos (by first | decide | omega)]
    · rw [F72 j q1 q2 (by first | decide | omega) (by first | decide | omega), Q72 j (by first | decide | omega) (by first | decide | omega)]
  · rw [← hF, wr_f, if_neg (by decide), wr_c (by decide), wr_c (by decide), wr_c (by decide), wr_f, if_pos rfl, Q72 3 (by decide) (by decide), QC 111 (by first | decide | omega)]
  · rw [Fc 15 (by decide) (by decide) (by decide), z10, Q15, QC 111 (by first | decide | omega)]
  · rw [← hF, wr_f, if_pos rfl, hnn, w32e (by first | decide | omega) (by first | decide | omega)]
  · rw [← hF, wr_c (by decide), wr_c (by decide), wr_c (by decide), wr_f, wr_c (by decide), v2.2.1 115 (by decide) (by decide) (by decide) (by decide), Zr 115 (by decide) (by decide), Q72 2 (by decide) (by decide), QC 115 (by first | decide | omega)]
  · rw [← hF, wr_c (by decide), wr_c (by decide), wr_f, wr_c (by decide), wr_c (by decide), v2.2.1 116 (by decide) (by decide) (by decide) (by decide), Zr 116 (by decide) (by decide), QC 116 (by first | decide | omega)]
  · rw [← hF, wr_c (by decide), wr_f, wr_c (by decide), wr_c (by decide), wr_c (by decide), v2.2.1 117 (by decide) (by decide) (by decide) (by decide), Zr 117 (by decide) (by decide), QC 117 (by first | decide | omega), hnn]
  · rw [eSp, Fc _ (by first | decide | omega) (by first | decide | omega) (by first | decide | omega), z11 j, QC (spA S v) (by first | decide | omega), QC 111 (by first | decide | omega)]
  · rw [eCl, Fc _ (by first | decide | omega) (by first | decide | omega) (by first | decide | omega), z12 k, Q72 2 (by decide) (by decide), QC (clA S c) (by first | decide | omega)]
end
end
section
-- 99o.copies
/-! close: the reference makes a carry -/
noncomputable def cpC (s t : Nat) (h : Nat → Nat → Int) (a j : Nat) : Int :=
  if a = 78 then (if j = t then h 78 s else h 78 j)
  else if 79 ≤ a ∧ a ≤ 83 then (if 16 * t ≤ j ∧ j < 16 * t + 16 then h a (16 * s + (j - 16 * t)) else h a j)
  else if 84 ≤ a ∧ a ≤ 85 then (if 200 * t ≤ j ∧ j < 200 * t + 200 then h a (200 * s + (j - 200 * t)) else h a j)
  else h a j
noncomputable def CP1 (W T : AH) (s t k : Nat) : Prop := T.1 = W.1 ∧ (∀ a, a < 79 ∨ 83 < a → T.2 a = W.2 a) ∧ ∀ a i, 79 ≤ a → a ≤ 83 → T.2 a i = if 16 * t ≤ i ∧ i < 16 * t + k then W.2 a (16 * s + (i - 16 * t)) else W.2 a i
noncomputable def CP2 (W T : AH) (s t k : Nat) : Prop := T.1 = W.1 ∧ (∀ a, a < 84 ∨ 85 < a → T.2 a = W.2 a) ∧ ∀ a i, 84 ≤ a → a ≤ 85 → T.2 a i = if 200 * t ≤ i ∧ i < 200 * t + k then W.2 a (200 * s + (i - 200 * t)) else W.2 a i
/-- the new authority, cell by cell -/
noncomputable def auH (n : Nat) (hd s y td : Int) (h : Nat → Nat → Int) (a j : Nat) : Int :=
  if a = 72 ∧ j = 40 then (n : Int) + 1 else if a = 78 ∧ j = 20 + n then 0
  else if (97 ≤ a ∧ a ≤ 104) ∧ j = n then (if a = 97 then 2 else if a = 98 then hd else if a = 99 then s else if a = 100 then y else if a = 104 then td else -1)
  else h a j
noncomputable def adH (n v : Nat) (hd s y td : Int) (h : Nat → Nat → Int) : Nat → Nat → Int := cpC (20 + v) (20 + n) (auH n hd s y td h)
section
variable {L : Nat} {xs : Nat → Int} {d : Nat} {S S' T U W A : AH} {h h' : Nat → Nat → Int}
theorem w200t {tt j : Nat} (ht : tt < 100) (hj : j ≤ 200) : w32 (w32 (200 * (tt : Int)) + (j : Int)) = ((200 * tt + j : Nat) : Int) := by
  rw [w32e (x := 200 * (tt : Int)) (by first | decide | omega) (by first | decide | omega), w32e (by first | decide | omega) (by first | decide | omega)]
  omega
theorem m_cp1 {s t : Nat} (hs : s < 100) (ht : t < 100) (hst : s ≠ t) : ∀ (m j : Nat) (T : AH), j + m = 16 → CP1 W T s t j → ∃ T', LQ (WK L xs) (ev (WK L xs) d) 312 14 [some (vr 72), some (vi (s : Int)), some (vi (t : Int)), some (vi (j : Int))] [] T = LQ (WK L xs) (ev (WK L xs) d) 312 138 [some (vr 72), some (vi (s : Int)), some (vi (t : Int)), some (vi 0)] [] T' ∧ CP1 W T' s t 16 := by
  intro m
  induction m with
  | zero =>
    intro j T hj hT
    have e : j = 16 := by omega
    subst e
    refine ⟨T, ?_, hT⟩
    rw [q_312_14, if_neg (by decide)]
  | succ m ih =>
    intro j T hj hT
    have q1 : (0 : Int) ≤ ((16 * s + j : Nat) : Int) ∧ ((16 * s + j : Nat) : Int) < 1600 := by omega
    have q2 : (0 : Int) ≤ ((16 * t + j : Nat) : Int) ∧ ((16 * t + j : Nat) : Int) < 1600 := by omega
    have go := q_312_14 L xs d T (s : Int) (t : Int) (j : Int)
    rw [if_pos (by first | decide | omega), w16t hs (by first | decide | omega), w16t ht (by first | decide | omega), wj (by first | decide | omega)] at go
    simp only [if_pos q1, if_pos q2, Int.toNat_natCast] at go
    generalize hX : wr (wr (wr (wr (wr T 79 (16 * t + j) (T.2 79 (16 * s + j))) 80 (16 * t + j) (T.2 80 (16 * s + j))) 81 (16 * t + j) (T.2 81 (16 * s + j))) 82 (16 * t + j) (T.2 82 (16 * s + j))) 83 (16 * t + j) (T.2 83 (16 * s + j)) = X at go
    have hC : CP1 W X s t (j + 1) := by
      refine ⟨by rw [← hX]; exact hT.1, fun a q => ?_, fun a i h1 h2 => ?_⟩
      · rw [← hX, wr_c (by first | decide | omega), wr_c (by first | decide | omega), wr_c (by first | decide | omega), wr_c (by first | decide | omega), wr_c (by first | decide | omega), hT.2.1 a q]
      · have e : X.2 a i = if i = 16 * t + j then T.2 a (16 * s + j) else T.2 a i := by
          rw [← hX]
          have : a = 79 ∨ a = 80 ∨ a = 81 ∨ a = 82 ∨ a = 83 := by omega
          rcases this with rfl | rfl | rfl | rfl | rfl <;> simp [wr_2]
        rw [e, hT.2.2 a _ h1 h2, hT.2.2 a i h1 h2]
        by_cases c1 : i = 16 * t + j
        · rw [if_pos c1, if_neg (by first | decide | omega), if_pos (by first | decide | omega), show i - 16 * t = j by omega]
        · rw [if_neg c1]
          by_cases c2 : 16 * t ≤ i ∧ i < 16 * t + j
          · rw [if_pos c2, if_pos (by first | decide | omega)]
          · rw [if_neg c2, if_neg (by first | decide | omega)]
    obtain ⟨T', t1, t2⟩ := ih (j + 1) X (by first | decide | omega) hC
    exact ⟨T', go.trans t1, t2⟩
theorem m_cp2 {s t : Nat} (hs : s < 100) (ht : t < 100) (hst : s ≠ t) : ∀ (m j : Nat) (T : AH), j + m = 200 → CP2 W T s t j → ∃ T', LQ (WK L xs) (ev (WK L xs) d) 312 138 [some (vr 72), some (vi (s : Int)), some (vi (t : Int)), some (vi (j : Int))] [] T = some (0, T') ∧ CP2 W T' s t 200 := by
  intro m
  induction m with
  | zero =>
    intro j T hj hT
    have e : j = 200 := by omega
    subst e
    refine ⟨T, ?_, hT⟩
    rw [q_312_138, if_neg (by decide)]
  | succ m ih =>
    intro j T hj hT
    have q1 : (0 : Int) ≤ ((200 * s + j : Nat) : Int) ∧ ((200 * s + j : Nat) : Int) < 20000 := by omega
    have q2 : (0 : Int) ≤ ((200 * t + j : Nat) : Int) ∧ ((200 * t + j : Nat) : Int) < 20000 := by omega
    have go := q_312_138 L xs d T (s : Int) (t : Int) (j : Int)
    rw [if_pos (by first | decide | omega), w200t hs (by first | decide | omega), w200t ht (by first | decide | omega), wj (by first | decide | omega)] at go
    simp only [if_pos q1, if_pos q2, Int.toNat_natCast] at go
    generalize hX : wr (wr T 84 (200 * t + j) (T.2 84 (200 * s + j))) 85 (200 * t + j) (T.2 85 (200 * s + j)) = X at go
    have hC : CP2 W X s t (j + 1) := by
      refine ⟨by rw [← hX]; exact hT.1, fun a q => ?_, fun a i h1 h2 => ?_⟩
      · rw [← hX, wr_c (by first | decide | omega), wr_c (by first | decide | omega), hT.2.1 a q]
      · have e : X.2 a i = if i = 200 * t + j then T.2 a (200 * s + j) else T.2 a i := by
          rw [← hX]
          have : a = 84 ∨ a = 85 := by omega
          rcases this with rfl | rfl <;> simp [wr_2]
        rw [e, hT.2.2 a _ h1 h2, hT.2.2 a i h1 h2]
        by_cases c1 : i = 200 * t + j
        · rw [if_pos c1, if_neg (by first | decide | omega), if_pos (by first | decide | omega), show i - 200 * t = j by omega]
        · rw [if_neg c1]
          by_cases c2 : 200 * t ≤ i ∧ i < 200 * t + j
          · rw [if_pos c2, if_pos (by first | decide | omega)]
          · rw [if_neg c2, if_neg (by first | decide | omega)]
    obtain ⟨T', t1, t2⟩ := ih (j + 1) X (by first | decide | omega) hC
    exact ⟨T', go.trans t1, t2⟩
theorem m_copies {s t : Nat} (hs : s < 100) (ht : t < 100) (hst : s ≠ t) : ∃ U, ev (WK L xs) (d + 1) 312 [vr 72, vi (s : Int), vi (t : Int)] W = some (0, U) ∧ U.1 = W.1 ∧ ∀ a j, U.2 a j = cpC s t W.2 a j := by
  generalize hA : wr W 78 t (W.2 78 s) = A
  have A1 : A.1 = W.1 := by rw [← hA]; rfl
  have A78 : ∀ j, A.2 78 j = if j = t then W.2 78 s else W.2 78 j := fun j => by rw [← hA, wr_f]
  have Ac : ∀ a, a ≠ 78 → A.2 a = W.2 a := fun a q => by rw [← hA, wr_c q]
  obtain ⟨B, b1, b2⟩ := m_cp1 (L := L) (xs := xs) (d := d) (W := A) hs ht hst 16 0 A (by first | decide | omega) ⟨rfl, fun _ _ => rfl, fun a i _ _ => by rw [if_neg (by first | decide | omega)]⟩
  obtain ⟨U, u1, u2⟩ := m_cp2 (L := L) (xs := xs) (d := d) (W := B) hs ht hst 200 0 B (by first | decide | omega) ⟨rfl, fun _ _ => rfl, fun a i _ _ => by rw [if_neg (by first | decide | omega)]⟩
  refine ⟨U, ?_, u2.1.trans (b2.1.trans A1), fun a j => ?_⟩
  · rw [q_312, if_pos (by first | decide | omega), if_pos (by first | decide | omega), Int.toNat_natCast, Int.toNat_natCast, hA]
    exact b1.trans u1
  · unfold cpC
    by_cases c1 : a = 78
    · subst c1
      rw [if_pos rfl, u2.2.1 78 (by first | decide | omega), b2.2.1 78 (by first | decide | omega), A78]
    rw [if_neg c1]
    by_cases c2 : 79 ≤ a ∧ a ≤ 83
    · rw [if_pos c2, u2.2.1 a (by first | decide | omega), b2.2.2 a j c2.1 c2.2, Ac a c1]
    rw [if_neg c2]
    by_cases c3 : 84 ≤ a ∧ a ≤ 85
    · rw [if_pos c3, u2.2.2 a j c3.1 c3.2, b2.2.1 a (by first | decide | omega), Ac a c1]
    · rw [if_neg c3, u2.2.1 a (by first | decide | omega), b2.2.1 a (by first | decide | omega), Ac a c1]
theorem m_mkC {n v : Nat} (hn : W.2 72 40 = n) (hn80 : n < 80) (hv : v < n) (hd s y : Int) : ∃ U, (∀ F : Int → AH → Rs, bindR (ev (WK L xs) (d + 1) 239 [vr 72, vi 2, vi hd, vi s, vi y] W) (fun r1 S2 => bindR (ev (WK L xs) (d + 1) 312 [vr 72, vi (w32 ((20 : Int) + (v : Int))), vi (w32 ((20 : Int) + r1))] S2) F) = F 0 U) ∧ U.1 = W.1 ∧ ∀ a j, U.2 a j = adH n v hd s y (W.2 72 2) W.2 a j := by
  obtain ⟨A, a1, a2, a3, a4, a5, a6, a7, a8, a9, a10, a11, a12, a13, a14, a15⟩ := m_addAu (L := L) (xs := xs) (d := d) hn hn80 2 hd s y
  obtain ⟨U, u1, u2, u3⟩ := m_copies (L := L) (xs := xs) (d := d) (W := A) (s := 20 + v) (t := 20 + n) (by first | decide | omega) (by first | decide | omega) (by first | decide | omega)
  refine ⟨U, fun F => ?_, u2.trans a2, fun a j => ?_⟩
  · rw [a1, bR, w20v (v := v) (n := 80) (by first | decide | omega) (by first | decide | omega), w20v (v := n) (n := 80) (by first | decide | omega) (by first | decide | omega), u1, bR]
  · rw [u3]
    unfold adH
    have e : A.2 = auH n hd s y (W.2 72 2) W.2 := by
      funext a j
      unfold auH
      by_cases c1 : a = 72
      · subst c1
        by_cases c2 : j = 40
        · subst c2
          rw [a5, if_pos ⟨rfl, rfl⟩]
        · rw [a4 j c2, if_neg (fun z => c2 z.2), if_neg (by first | decide | omega), if_neg (by first | decide | omega)]
      rw [if_neg (fun z => c1 z.1)]
      by_cases c3 : a = 78
      · subst c3
        rw [a6 j]
        by_cases c4 : j = 20 + n
        · rw [if_pos c4, if_pos ⟨rfl, c4⟩]
        · rw [if_neg c4, if_neg (fun z => c4 z.2), if_neg (by first | decide | omega)]
      rw [if_neg (fun z => c3 z.1)]
      by_cases c5 : 97 ≤ a ∧ a ≤ 104
      · by_cases c6 : j = n
        · subst c6
          rw [if_pos ⟨c5, rfl⟩]
          have : a = 97 ∨ a = 98 ∨ a = 99 ∨ a = 100 ∨ a = 101 ∨ a = 102 ∨ a = 103 ∨ a = 104 := by omega
          rcases this with rfl | rfl | rfl | rfl | rfl | rfl | rfl | rfl
          · rw [a8]
            rfl
          · rw [a9]
            rfl
          · rw [a10]
            rfl
          · rw [a11]
            rfl
          · rw [a12]
            rfl
          · rw [a13]
            rfl
          · rw [a14]
            rfl
          · rw [a15]
            rfl
        · rw [a7 a j c5.1 c5.2 c6, if_neg (fun z => c6 z.2)]
      · rw [a3 a c1 c3 c5, if_neg (fun z => c5 z.1)]
    rw [e]
/-- each cell comes from itself -/
theorem adH_cg {n v : Nat} {hd s y td : Int} {a : Nat} (e : h' a = h a) (j : Nat) : adH n v hd s y td h' a j = adH n v hd s y td h a j := by
  have e1 : ∀ i, auH n hd s y td h' a i = auH n hd s y td h a i := fun i => by
    unfold auH
    rw [e]
  unfold adH cpC
  by_cases c1 : a = 78
  · subst c1
    rw [if_pos rfl, if_pos rfl, e1, e1]
  · rw [if_neg c1, if_neg c1, e1, e1, e1]
theorem adH_o {n v : Nat} {hd s y td : Int} {a : Nat} (h1 : a ≠ 72) (h2 : ¬ (78 ≤ a ∧ a ≤ 85)) (h3 : ¬ (97 ≤ a ∧ a ≤ 104)) (j : Nat) : adH n v hd s y td h a j = h a j := by
  unfold adH cpC auH
  rw [if_neg (by first | decide | omega), if_neg (by first | decide | omega), if_neg (by first | decide | omega), if_neg (by first | decide | omega), if_neg (by first | decide | omega), if_neg (by first | decide | omega)]
theorem adH_72 {n v : Nat} {hd s y td : Int} (j : Nat) : adH n v hd s y td h 72 j = if j = 40 then (n : Int) + 1 else h 72 j := by
  unfold adH cpC auH
  rw [if_neg (by decide), if_neg (by decide), if_neg (by decide)]
  by_cases c : j = 40
  · rw [if_pos c, if_pos ⟨rfl, c⟩]
  · rw [if_neg c, if_neg (fun z => c z.2), if_neg (by first | decide | omega), if_neg (by first | decide | omega)]
theorem adH_au {n v : Nat} {hd s y td : Int} {a : Nat} (h3 : 97 ≤ a ∧ a ≤ 104) (j : Nat) : adH n v hd s y td h a j = if j = n then (if a = 97 then 2 else if a = 98 then hd else if a = 99 then s else if a = 100 then y else if a = 104 then td else -1) else h a j := by
  unfold adH cpC auH
  rw [if_neg (show ¬ a = 78 by omega), if_neg (show ¬ (79 ≤ a ∧ a ≤ 83) by omega), if_neg (show ¬ (84 ≤ a ∧ a ≤ 85) by omega), if_neg (show ¬ (a = 72 ∧ j = 40) by omega), if_neg (show ¬ (a = 78 ∧ j = 20 + n) by omega)]
  by_cases c : j = n
  · rw [if_pos c, if_pos ⟨h3, c⟩]
  · rw [if_neg c, if_neg (fun z => c z.2)]
/-- the texts behind -/
theorem adH_tx {n v : Nat} {hd s y td : Int} {t : Nat} {x : TXT} (ht : t ≠ 20 + n) (H : RX h t x) : RX (adH n v hd s y td h) t x := by
  refine H.fr ?_ (fun j hj => ?_) (fun i hi => ?_)
  · unfold adH cpC auH
    rw [if_pos rfl, if_neg ht, if_neg (by first | decide | omega), if_neg (fun z => ht z.2), if_neg (by first | decide | omega)]
  · have k : ∀ a, 79 ≤ a → a ≤ 83 → adH n v hd s y td h a (16 * t + j) = h a (16 * t + j) := fun a q1 q2 => by
      unfold adH cpC auH
      rw [if_neg (by first | decide | omega), if_pos (show 79 ≤ a ∧ a ≤ 83 from ⟨q1, q2⟩), if_neg (by first | decide | omega), if_neg (by first | decide | omega), if_neg (by first | decide | omega), if_neg (by first | decide | omega)]
    exact ⟨k 79 (by decide) (by decide), k 80 (by decide) (by decide), k 81 (by decide) (by decide), k 82 (by decide) (by decide), k 83 (by decide) (by decide)⟩
  · have k : ∀ a, 84 ≤ a → a ≤ 85 → adH n v hd s y td h a (200 * t + i) = h a (200 * t + i) := fun a q1 q2 => by
      unfold adH cpC auH
      rw [if_neg (by first | decide | omega), if_neg (show ¬ (79 ≤ a ∧ a ≤ 83) by omega), if_pos (show 84 ≤ a ∧ a ≤ 85 from ⟨q1, q2⟩), if_neg (by first | decide | omega), if_neg (by first | decide | omega), if_neg (by first | decide | omega), if_neg (by first | decide | omega)]
    exact ⟨k 84 (by decide) (by decide), k 85 (by decide) (by decide)⟩
theorem adH_new {n v : Nat} {hd s y td : Int} {x : TXT} (hv : v < n) (H : RX h (20 + v) x) : RX (adH n v hd s y td h) (20 + n) x := by
  obtain ⟨b1, b2, b3, b4, b5⟩ := H
  have k78 : adH n v hd s y td h 78 (20 + n) = h 78 (20 + v) := by
    unfold adH cpC auH
    rw [if_pos rfl, if_pos rfl, if_neg (by first | decide | omega), if_neg (by first | decide | omega), if_neg (by first | decide | omega)]
  have k79 : ∀ a j, 79 ≤ a → a ≤ 83 → j < 16 → adH n v hd s y td h a (16 * (20 + n) + j) = h a (16 * (20 + v) + j) := fun a j q1 q2 q3 => by
    unfold adH cpC auH
    rw [if_neg (by first | decide | omega), if_pos (show 79 ≤ a ∧ a ≤ 83 from ⟨q1, q2⟩), if_pos (by first | decide | omega), if_neg (by first | decide | omega), if_neg (by first | decide | omega), if_neg (by first | decide | omega), show 16 * (20 + n) + j - 16 * (20 + n) = j by omega]
  have k84 : ∀ a i, 84 ≤ a → a ≤ 85 → i < 200 → adH n v hd s y td h a (200 * (20 + n) + i) = h a (200 * (20 + v) + i) := fun a i q1 q2 q3 => by
    unfold adH cpC auH
    rw [if_neg (by first | decide | omega), if_neg (show ¬ (79 ≤ a ∧ a ≤ 83) by omega), if_pos (show 84 ≤ a ∧ a ≤ 85 from ⟨q1, q2⟩), if_pos (by first | decide | omega), if_neg (by first | decide | omega), if_neg (by first | decide | omega), if_neg (by first | decide | omega), show 200 * (20 + n) + i - 200 * (20 + n) = i by omega]
  refine ⟨k78.trans b1, b2, fun j q hq => ?_, b4, fun i q hq => ?_⟩
  · have hj : j < 16 := Nat.lt_of_lt_of_le (List.getElem?_eq_some_iff.mp hq).1 b2
    rw [k79 79 j (by decide) (by decide) hj, k79 80 j (by decide) (by decide) hj, k79 81 j (by decide) (by decide) hj, k79 82 j (by decide) (by decide) hj, k79 83 j (by decide) (by decide) hj]
    exact b3 j q hq
  · have hi : i < 200 := Nat.lt_of_lt_of_le (List.getElem?_eq_some_iff.mp hq).1 b4
    rw [k84 84 i (by decide) (by decide) hi, k84 85 i (by decide) (by decide) hi]
    exact b5 i q hq
end
end
section
-- 99p.closing
/-! close: class and reference apart, over a state that both stand for -/
/-- the class's part of a state -/
noncomputable def XR (J T : AH) : Prop := T.1 = J.1 ∧ (∀ a, (a < 72 ∧ a ≠ 15 ∧ a ≠ 35) ∨ 151 ≤ a → T.2 a = J.2 a) ∧ T.2 15 0 = J.2 72 2
/-- the reference's part -/
noncomputable def MR (J W : AH) : Prop := ∀ a, 72 ≤ a → a < 151 → a ≠ 96 → W.2 a = J.2 a
/-- what a carry carries -/
noncomputable def cyV (h : Nat → Nat → Int) (v : Nat) (y pt : Int) : Int := ldiv (w64 (lft h v y * pt)) 100
noncomputable def cyP (h : Nat → Nat → Int) (v : Nat) (y pt : Int) : Prop := h 97 v = 2 ∧ h 100 v = y ∧ h 101 v = -1 ∧ 0 < cyV h v y pt
/-- a state with one carry more -/
noncomputable def cyJ (J : AH) (n v : Nat) (y pt : Int) : AH := ((auS J 2 (J.2 98 v) (min (cyV J.2 v y pt) 1000000000) (y + 1) (J.2 72 2) (J.2 (auA J v) 5).toNat (-1)).1, fun a => if 72 ≤ a ∧ a < 151 ∧ a ≠ 96 then adH n v (J.2 98 v) (min (cyV J.2 v y pt) 1000000000) (y + 1) (J.2 72 2) J.2 a else (wr (wr (auS J 2 (J.2 98 v) (min (cyV J.2 v y pt) 1000000000) (y + 1) (J.2 72 2) (J.2 (auA J v) 5).toNat (-1)) 37 n (J.1.1 : Int)) 36 1 ((n : Int) + 1)).2 a)
section
variable {L : Nat} {xs : Nat → Int} {d : Nat} {S J T U W A : AH}
theorem cyJ_r {n v a : Nat} {y pt : Int} (h : 72 ≤ a ∧ a < 151 ∧ a ≠ 96) : (cyJ J n v y pt).2 a = adH n v (J.2 98 v) (min (cyV J.2 v y pt) 1000000000) (y + 1) (J.2 72 2) J.2 a := if_pos h
theorem x_isConT (gv : GV J) (h36 : T.2 36 = J.2 36) (p : Int) : ev (WK L xs) (d + 1) 172 [vr 36, vi p] T = some (bi (0 ≤ p ∧ p < J.2 72 70), T) := by
  rw [q_172, h36, gv.2.2.1, rng]
theorem x_boundByT (gv : GV J) (gk : GK J) (hT : ∀ a, 36 ≤ a → a ≤ 42 → T.2 a = J.2 a) {k : Nat} (hk : (k : Int) < J.2 72 70) {y : Int} (hy : 0 ≤ y ∧ y < 10) : ev (WK L xs) (d + 2) 171 [vr 36, vi (k : Int), vi y] T = some (bnd J.2 k y, T) := by
  have hkn := gv.1.2.2.2.1
  obtain ⟨-, ⟨s1, s2⟩, -⟩ := gv.1.2.2.2.2 k hk
  obtain ⟨c1, c2, c3, c4⟩ := gv.2.2.2.2.2.1 k hk
  obtain ⟨n, hn⟩ := Int.eq_ofNat_of_zero_le hy.1
  subst hn
  have hp := gv.2.2.2.2.2.2 k n (by first | decide | omega) (by first | decide | omega)
  have hb := smC_bd gk.1 (P := fun c => pin J.2 c n = true ∧ J.2 112 c = k) (n := nClaims J.2) (Nat.le_refl _)
  have hb2 : 0 ≤ pct J.2 k n ∧ pct J.2 k n ≤ 300000000000 := hb
  have hq : (0 : Int) ≤ (k : Int) ∧ (k : Int) < 20 := by omega
  rw [q_171, x_isConT gv (hT 36 (by decide) (by decide)), bR]
  simp only [bi_0]
  rw [if_neg (fun z => z ⟨by omega, hk⟩), x_isYear, bR]
  simp only [bi_0]
  rw [if_neg (fun z => z hy), w32e (x := (k : Int) * 10) (by first | decide | omega) (by first | decide | omega), w32e (by first | decide | omega) (by first | decide | omega), if_pos (show (0 : Int) ≤ (k : Int) * 10 + (n : Int) ∧ (k : Int) * 10 + (n : Int) < 200 by omega), hT 39 (by decide) (by decide), hT 40 (by decide) (by decide), hT 41 (by decide) (by decide), hT 42 (by decide) (by decide)]
  simp only [if_pos hq, Int.toNat_natCast]
  rw [show ((k : Int) * 10 + (n : Int)).toNat = k * 10 + n by omega, hp, c2, c3, c4]
  unfold bnd
  by_cases h1 : (n : Int) < J.2 126 k
  · rw [if_pos h1, if_neg (by first | decide | omega)]
  · rw [if_neg h1]
    by_cases h2 : J.2 127 k < n
    · rw [if_pos h2, if_neg (by first | decide | omega)]
    · rw [if_neg h2, if_pos (by first | decide | omega), w64e (by first | decide | omega) (by first | decide | omega)]
theorem x_boundOfT (gv : GV J) (gk : GK J) (hT : ∀ a, 36 ≤ a → a ≤ 42 → T.2 a = J.2 a) (v : Int) {y : Int} (hy : 0 ≤ y ∧ y < 10) : ev (WK L xs) (d + 3) 170 [vr 36, vi v, vi y] T = some (w64 (bns J.2 v y), T) := by
  have hkn := gv.1.2.2.2.1
  have key : ∀ (m k : Nat), k + m = (J.2 72 70).toNat → LQ (WK L xs) (ev (WK L xs) (d + 2)) 170 5 [some (vr 36), some (vi v), some (vi y), some (vl (w64 (sm (bnf J.2 v y) k))), none, some (vi (k : Int))] [] T = some (w64 (bns J.2 v y), T) := by
    intro m
    induction m with
    | zero =>
      intro k hk
      rw [q_170_5, hT 36 (by decide) (by decide), gv.2.2.1, if_neg (by first | decide | omega), show k = (J.2 72 70).toNat by omega]
      rfl
    | succ m ih =>
      intro k hk
      have e1 : (k : Int) + 1 = ((k + 1 : Nat) : Int) := by omega
      have hi2 := ih (k + 1) (by first | decide | omega)
      obtain ⟨c1, -⟩ := gv.2.2.2.2.2.1 k (by first | decide | omega)
      rw [sm_su (bnf J.2 v y) k] at hi2
      rw [q_170_5, hT 36 (by decide) (by decide), gv.2.2.1, if_pos (by first | decide | omega), if_pos (by first | decide | omega), Int.toNat_natCast, hT 38 (by decide) (by decide), c1, w32e (by first | decide | omega) (by first | decide | omega), e1]
      by_cases h : J.2 124 k = v
      · have : bnf J.2 v y k = bnd J.2 k y := by unfold bnf; rw [if_pos h]
        rw [this] at hi2
        rw [if_pos h, x_boundByT gv gk hT (by first | decide | omega) hy, bR, w64_al]
        exact hi2
      · have : bnf J.2 v y k = 0 := by unfold bnf; rw [if_neg h]
        rw [this, Int.add_zero] at hi2
        rw [if_neg h]
        exact hi2
  rw [q_170]
  have := key (J.2 72 70).toNat 0 (by first | decide | omega)
  exact this
theorem XR.hi (p : XR J T) {a : Nat} (h : 151 ≤ a) : T.2 a = J.2 a := p.2.1 a (Or.inr h)
theorem XR.lo (p : XR J T) {a : Nat} (h : a < 72) (h1 : a ≠ 15) (h2 : a ≠ 35) : T.2 a = J.2 a := p.2.1 a (Or.inl ⟨h, h1, h2⟩)
theorem x_spentT (gv : GV J) (p : XR J T) {v : Nat} (hv : (v : Int) < J.2 72 40) (h1 : J.2 97 v ≠ 1) {y : Int} (hy : 0 ≤ y ∧ y < 10) : ev (WK L xs) (d + 2) 71 [vr (auA J v), vi y] T = some (pby J.2 v y, T) := by
  obtain ⟨a1, a2, a3, a4, a5, a6, a7, a8, a9, a10, a11, a12, a13, a14, a15, a16⟩ := gv.2.2.2.1 v hv
  obtain ⟨n, hn⟩ := Int.eq_ofNat_of_zero_le hy.1
  subst hn
  have b1 : isO T (auA J v) 11 14 := a1.eq p.1
  have b2 : isO T (spA J v) 3 10 := a2.eq p.1
  have e13 : (T.2 (auA J v) 13).toNat = spA J v := by rw [p.hi a1.1]; rfl
  rw [q_71, x_isYear, bR]
  simp only [bi_0]
  rw [if_neg (fun z => z hy), k11 b1, rdvD b1.1, e13, shpD b2.1, b2.2.2, rdvD b2.1, Int.toNat_natCast, if_pos (show (0 : Int) ≤ (n : Int) ∧ (n : Int) < ((3, 10) : Nat × Nat).2 by show (0 : Int) ≤ (n : Int) ∧ (n : Int) < ((10 : Nat) : Int); omega), p.hi a2.1, (a16 h1 n (by first | decide | omega)).1]
  rfl
theorem x_leftT (H : Inv J) (p : XR J T) {v : Nat} (hv : (v : Int) < J.2 72 40) (h2 : J.2 97 v = 2) {y : Int} (hy : 0 ≤ y ∧ y < 10) : ev (WK L xs) (d + 5) 19 [vr 15, vi (v : Int), vr (auA J v), vi y] T = some (lft J.2 v y, T) := by
  have gv := H.gv
  obtain ⟨a1, a2, a3, a4, a5, a6, a7, a8, a9, a10, a11, a12, a13, a14, a15, a16⟩ := gv.2.2.2.1 v hv
  obtain ⟨-, -, -, -, -, -, -, r8⟩ := gv.1.2.1 v hv
  have h1 : ¬ J.2 97 v = 1 := by rw [h2]; decide
  have h4 : ¬ J.2 97 v = 4 := by rw [h2]; decide
  have ov := r8 h1 h4
  have b1 : isO T (auA J v) 11 14 := a1.eq p.1
  have eo : T.2 (auA J v) = J.2 (auA J v) := p.hi a1.1
  have h5 := a1.1
  rw [if_neg h1] at a9
  rw [q_19]
  simp only [k11 b1, k11b b1, rdvD h5, eo, a3, a5, a9, a13, a14]
  unfold lft
  rw [if_neg h1, if_neg h1, if_pos ov, if_neg (fun z => z ov), x_spentT gv p hv h1 hy, bR, x_boundOfT gv H.gk (fun a q1 q2 => p.lo (by first | decide | omega) (by first | decide | omega) (by first | decide | omega)) _ hy, bR, w64_sr, w64_ar, w64_sl, Int.sub_sub (w64 (J.2 99 v + (J.2 106 v - J.2 107 v))), w64_sl]
  congr 2
  congr 1
  omega
theorem MR.ref (H : Inv J) (p : MR J W) : RK W.2 ∧ RV W.2 ∧ RP W.2 := H.ref p
theorem MR.lf (p : MR J W) : lft W.2 = lft J.2 := lft_fr (fun a q => p a (by first | decide | omega) (by first | decide | omega) (by first | decide | omega)) (by rw [p 72 (by decide) (by decide) (by decide)]) (by rw [p 72 (by decide) (by decide) (by decide)])
/-- the class's carry -/
theorem x_cyJ (H : Inv J) (p : XR J T) {n v : Nat} (hn : J.2 72 40 = n) (hn80 : n < 80) (hv : v < n) {y pt : Int} (hy : 0 ≤ y ∧ y < 9) : ∃ T', (∀ F : Int → AH → Rs, gd (Nat.beq (shp (WK L xs) (nw T 11 14) (auA J v)).1 11) (gd (Nat.beq (shp (WK L xs) (nw T 11 14) (auA J v)).1 11) (gd (Nat.beq (shp (WK L xs) (nw T 11 14) T.1.1).1 11 && Nat.ble 2 8) (bindR (ev (WK L xs) (d + 2) 70 [vr T.1.1, vi (2 : Int), vi (rdv (WK L xs) (nw T 11 14) (auA J v) 1), vi (min (cyV J.2 v y pt) 1000000000), vi (w32 (y + (1 : Int))), vi ((nw T 11 14).2 15 0), vr (rdv (WK L xs) (nw T 11 14) (auA J v) 5).toNat, vi (-1 : Int)] (nw T 11 14)) (fun r7 S8 => (bindR (ev (WK L xs) (d + 2) 167 [vr 36, vr T.1.1] S8) F))))) = F n T') ∧ XR (cyJ J n v y pt) T' ∧ T'.2 15 = T.2 15 ∧ ∀ a, (72 ≤ a ∧ a < 151) ∨ a = 35 → T'.2 a = T.2 a := by
  have gv := H.gv
  have i1 := H.1
  have hvl : (v : Int) < J.2 72 40 := by omega
  obtain ⟨a1, a2, a3, a4, -⟩ := gv.2.2.2.1 v hvl
  have h5 := a1.1
  have ha := a1.2.1
  have T1 : T.1.1 = J.1.1 := by rw [p.1]
  have iT : 151 ≤ T.1.1 := by omega
  have oA : isO (nw T 11 14) (auA J v) 11 14 := ⟨h5, by show auA J v < T.1.1 + 1; omega, by rw [nw_s, if_neg (by first | decide | omega), p.1]; exact a1.2.2⟩
  have hs : (nw T 11 14).1.2.2 T.1.1 = (11, 14) := by rw [nw_s, if_pos rfl]
  have g1 : ∀ r : Rs, gd (Nat.beq (shp (WK L xs) (nw T 11 14) T.1.1).1 11 && Nat.ble 2 8) r = r := fun r => by rw [shpD iT, hs]; rfl
  have e1 : (nw T 11 14).2 (auA J v) 1 = J.2 98 v := by rw [nw_2, if_neg (by first | decide | omega), p.hi h5, a4]
  have e5 : (nw T 11 14).2 (auA J v) 5 = J.2 (auA J v) 5 := by rw [nw_2, if_neg (by first | decide | omega), p.hi h5]
  have e15 : (nw T 11 14).2 15 0 = J.2 72 2 := by rw [nw_2, if_neg (by first | decide | omega), p.2.2]
  generalize hs' : min (cyV J.2 v y pt) 1000000000 = s
  generalize htx : (J.2 (auA J v) 5).toNat = tx
  generalize hB : auS T 2 (J.2 98 v) s (y + 1) (J.2 72 2) tx (-1) = B
  have loB : ∀ a, a < T.1.1 → B.2 a = T.2 a := fun a q => by rw [← hB, (auS_hi q).2]
  have oB : isO B T.1.1 11 14 := by rw [← hB]; exact (auS_o iT).1
  have eB : B.2 36 1 = n := by rw [loB 36 (by first | decide | omega), p.lo (by decide) (by decide) (by decide), gv.2.1, hn]
  refine ⟨wr (wr B 37 n (T.1.1 : Int)) 36 1 ((n : Int) + 1), fun F => ?_, ⟨?_, fun a q => ?_, ?_⟩, ?_, fun a q => ?_⟩
  · rw [k11 oA, k11 oA, g1, rdvD h5, rdvD h5, e1, e5, e15, htx, w32e (x := y + 1) (by first | decide | omega) (by first | decide | omega), x_newAu iT, bR, hB, x_addAu oB eB hn80, bR]
  · show B.1 = _
    unfold cyJ
    rw [← hB, hs', htx]
    show ((T.1.1 + 1 + 1, T.1.2.1 + 14 + 10, fun b => if b = T.1.1 + 1 then (3, 10) else if b = T.1.1 then (11, 14) else T.1.2.2 b) : AG) = (J.1.1 + 1 + 1, J.1.2.1 + 14 + 10, fun b => if b = J.1.1 + 1 then (3, 10) else if b = J.1.1 then (11, 14) else J.1.2.2 b)
    rw [p.1]
  · show _ = if 72 ≤ a ∧ a < 151 ∧ a ≠ 96 then _ else _
    rw [if_neg (by first | decide | omega), hs', htx, T1]
    have eBJ : ∀ b, (b < 72 ∧ b ≠ 15 ∧ b ≠ 35) ∨ 151 ≤ b → B.2 b = (auS J 2 (J.2 98 v) s (y + 1) (J.2 72 2) tx (-1)).2 b := fun b qb => by
      rw [← hB]
      show (if b = T.1.1 then auF 2 (J.2 98 v) s (y + 1) (J.2 72 2) tx (-1) (T.1.1 + 1) else if b = T.1.1 + 1 then fun _ => 0 else T.2 b) = (if b = J.1.1 then auF 2 (J.2 98 v) s (y + 1) (J.2 72 2) tx (-1) (J.1.1 + 1) else if b = J.1.1 + 1 then fun _ => 0 else J.2 b)
      rw [T1, p.2.1 b qb]
    funext j
    by_cases c6 : a = 36
    · subst c6
      rw [wr_f, wr_f, wr_c (by decide), wr_c (by decide), eBJ 36 q]
    · rw [wr_c c6, wr_c c6]
      by_cases c7 : a = 37
      · subst c7
        rw [wr_f, wr_f, eBJ 37 q]
      · rw [wr_c c7, wr_c c7, eBJ a q]
  · rw [cyJ_r (by decide), adH_72, if_neg (by decide), wr_c (by decide), wr_c (by decide), loB 15 (by first | decide | omega), p.2.2]
  · rw [wr_c (by decide), wr_c (by decide), loB 15 (by first | decide | omega)]
  · rw [wr_c (by first | decide | omega), wr_c (by first | decide | omega), loB a (by first | decide | omega)]
/-- what holds with one carry more -/
theorem Inv.cyJ (H : Inv J) {n v : Nat} (hn : J.2 72 40 = n) (hn80 : n < 80) (hv : v < n) {y pt : Int} (hy : 0 ≤ y ∧ y < 9) (hc : 0 < cyV J.2 v y pt) : Inv (_root_.Jvm.Pilot.@@N@@.cyJ J n v y pt) := by
  have gv := H.gv
  have i1 := H.1
  have ht := H.gt
  have hvl : (v : Int) < J.2 72 40 := by omega
  obtain ⟨a1, a2, a3, a4, a5, a6, a7, a8, a9, a10, a11, a12, a13, a14, a15, a16⟩ := gv.2.2.2.1 v hvl
  obtain ⟨-, r2, -⟩ := gv.1.2.1 v hvl
  unfold _root_.Jvm.Pilot.@@N@@.cyJ
  have hsb : 1 ≤ min (cyV J.2 v y pt) 1000000000 ∧ min (cyV J.2 v y pt) 1000000000 ≤ 1000000000 := by omega
  generalize hs' : min (cyV J.2 v y pt) 1000000000 = s at hsb ⊢
  generalize htx : (J.2 (auA J v) 5).toNat = tx at a15 ⊢
  generalize hB : auS J 2 (J.2 98 v) s (y + 1) (J.2 72 2) tx (-1) = B
  have loB : ∀ a, a < J.1.1 → B.2 a = J.2 a := fun a q => by rw [← hB, (auS_hi q).2]
  generalize hZ : ((B.1, fun a => if 72 ≤ a ∧ a < 151 ∧ a ≠ 96 then adH n v (J.2 98 v) s (y + 1) (J.2 72 2) J.2 a else (wr (wr B 37 n (J.1.1 : Int)) 36 1 ((n : Int) + 1)).2 a) : AH) = Z
  have Z1 : Z.1 = B.1 := by rw [← hZ]
  have Zr : ∀ a, 72 ≤ a → a < 151 → a ≠ 96 → Z.2 a = adH n v (J.2 98 v) s (y + 1) (J.2 72 2) J.2 a := fun a q1 q2 q3 => by rw [← hZ]; exact if_pos ⟨q1, q2, q3⟩
  have Zx : ∀ a, ¬ (72 ≤ a ∧ a < 151 ∧ a ≠ 96) → Z.2 a = (wr (wr B 37 n (J.1.1 : Int)) 36 1 ((n : Int) + 1)).2 a := fun a q => by rw [← hZ]; exact if_neg q
  have Zc : ∀ a, a < 151 → a ≠ 36 → a ≠ 37 → a ≠ 72 → ¬ (78 ≤ a ∧ a ≤ 85) → ¬ (97 ≤ a ∧ a ≤ 104) → Z.2 a = J.2 a := fun a q1 q2 q3 q4 q5 q6 => by
    by_cases c : 72 ≤ a ∧ a < 151 ∧ a ≠ 96
    · rw [Zr a c.1 c.2.1 c.2.2]
      funext j
      exact adH_o q4 q5 q6 j
    · rw [Zx a c, wr_c q2, wr_c q3, loB a (by first | decide | omega)]
  have Z72 : ∀ j, Z.2 72 j = if j = 40 then (n : Int) + 1 else J.2 72 j := fun j => by rw [Zr 72 (by decide) (by decide) (by decide), adH_72]
  have Zau : ∀ a j, 97 ≤ a → a ≤ 104 → Z.2 a j = if j = n then (if a = 97 then 2 else if a = 98 then J.2 98 v else if a = 99 then s else if a = 100 then y + 1 else if a = 104 then J.2 72 2 else -1) else J.2 a j := fun a j q1 q2 => by rw [Zr a (by first | decide | omega) (by first | decide | omega) (by first | decide | omega), adH_au ⟨q1, q2⟩]
  have Zn : ∀ a, 97 ≤ a → a ≤ 104 → Z.2 a n = (if a = 97 then 2 else if a = 98 then J.2 98 v else if a = 99 then s else if a = 100 then y + 1 else if a = 104 then J.2 72 2 else -1) := fun a q1 q2 => by rw [Zau a n q1 q2, if_pos rfl]
  have z97 : Z.2 97 n = 2 := Zn 97 (by decide) (by decide)
  have z98 : Z.2 98 n = J.2 98 v := Zn 98 (by decide) (by decide)
  have z99 : Z.2 99 n = s := Zn 99 (by decide) (by decide)
  have z100 : Z.2 100 n = y + 1 := Zn 100 (by decide) (by decide)
  have z102 : Z.2 102 n = -1 := Zn 102 (by decide) (by decide)
  have z104 : Z.2 104 n = J.2 72 2 := Zn 104 (by decide) (by decide)
  have Zt : ∀ t x, RX (adH n v (J.2 98 v) s (y + 1) (J.2 72 2) J.2) t x → RX Z.2 t x := fun t x q => q.cells (fun a q1 q2 => Zr a (by first | decide | omega) (by first | decide | omega) (by first | decide | omega))
  refine H.newB (tx := tx) (k := 2) (hd := J.2 98 v) (s := s) (y := y + 1) (td := J.2 72 2) (bs := -1) hn hn80 ?_ (fun a q => ?_) Zc (fun k q => ?_) ?_ (fun k q => ?_) ?_ (fun j => ?_) (fun a j q1 q2 q3 => ?_) (fun t x q1 q2 => ?_) ?_ ?_ ?_ ?_ ?_ ?_ ?_ ?_ ?_ ?_
  · rw [hB, Z1]
  · rw [hB, Zx a (by first | decide | omega), wr_c (by first | decide | omega), wr_c (by first | decide | omega)]
  · rw [Zx 36 (by first | decide | omega), wr_f, if_neg q, wr_c (by decide), loB 36 (by first | decide | omega)]
  · rw [Zx 36 (by first | decide | omega), wr_f, if_pos rfl]
  · rw [Z72, if_neg q]
  · rw [Z72, if_pos rfl]
  · rw [Zx 37 (by first | decide | omega), wr_c (by decide), wr_f, loB 37 (by first | decide | omega)]
  · rw [Zau a j q1 q2, if_neg q3]
  · exact Zt t x (adH_tx q1 q2)
  · unfold nwR
    rw [z97, z98, z99, z100, z102, z104]
    exact ⟨by decide, r2, ⟨by omega, by omega⟩, ⟨by omega, by omega⟩, ht.2, fun z => absurd z (by decide), fun _ => rfl⟩
  · exact z97
  · exact z98
  · exact z99
  · exact z100
  · exact z104
  · rw [z97, if_neg (by decide)]
  · exact Zn 101 (by decide) (by decide)
  · exact Zn 103 (by decide) (by decide)
  · obtain ⟨x, x1, x2⟩ := a15
    refine ⟨x, Zt _ x (adH_new hv x1), ?_⟩
    rw [decide_eq_false (show ¬ 20 + v < 20 by omega)] at x2
    rw [decide_eq_false (show ¬ 20 + n < 20 by omega)]
    refine x2.fr ⟨by rw [Z1, ← hB]; show J.1.1 ≤ J.1.1 + 1 + 1; omega, fun a q1 q2 => ⟨by rw [Z1, ← hB, (auS_hi q2).1], by rw [Zx a (by first | decide | omega), wr_c (by first | decide | omega), wr_c (by first | decide | omega), loB a q2]⟩⟩
end
end
section
-- 99q.clsteps
/-! close: one step of each loop -/
section
variable {L : Nat} {xs : Nat → Int} {d : Nat} {S J T U W A : AH}
theorem min_pos {q : Int} : 0 < min q 1000000000 ↔ 0 < q := by omega
theorem i32_min {q : Int} (h : 0 < q) : i32 (min q 1000000000) = min q 1000000000 := by
  unfold i32
  exact w32e (by first | decide | omega) (by first | decide | omega)
theorem i32_c1 {q : Int} (h : 0 < q) (h2 : q < 1000000000) : i32 q = min q 1000000000 := by
  unfold i32
  rw [w32e (by first | decide | omega) (by first | decide | omega)]
  omega
theorem i32_c2 {q : Int} (h2 : ¬ q < 1000000000) : i32 1000000000 = min q 1000000000 := by
  rw [show i32 1000000000 = 1000000000 by decide]
  omega
/-- the class's step -/
theorem x_clS (H : Inv J) (p : XR J T) {v n0 k : Nat} (hv : v < n0) (hn0 : (n0 : Int) ≤ J.2 72 40) (hk : k ≤ v) {y pt : Int} (hy : 0 ≤ y ∧ y < 9) :
    (¬ (cyP J.2 v y pt ∧ J.2 72 40 < 80) → LQ (WK L xs) (ev (WK L xs) 199) 62 65 [some (vr 15), some (vi y), some (vi pt), some (vi (n0 : Int)), some (vi (k : Int)), some (vi (v : Int)), none, none, none] [] T = LQ (WK L xs) (ev (WK L xs) 199) 62 65 [some (vr 15), some (vi y), some (vi pt), some (vi (n0 : Int)), some (vi (k : Int)), some (vi ((v + 1 : Nat) : Int)), none, none, none] [] T) ∧
    (∀ n : Nat, J.2 72 40 = n → n < 80 → cyP J.2 v y pt → ∃ T', LQ (WK L xs) (ev (WK L xs) 199) 62 65 [some (vr 15), some (vi y), some (vi pt), some (vi (n0 : Int)), some (vi (k : Int)), some (vi (v : Int)), none, none, none] [] T = LQ (WK L xs) (ev (WK L xs) 199) 62 65 [some (vr 15), some (vi y), some (vi pt), some (vi (n0 : Int)), some (vi ((k + 1 : Nat) : Int)), some (vi ((v + 1 : Nat) : Int)), none, none, none] [] T' ∧ XR (cyJ J n v y pt) T' ∧ T'.2 15 = T.2 15 ∧ ∀ a, (72 ≤ a ∧ a < 151) ∨ a = 35 → T'.2 a = T.2 a) := by
  have gv := H.gv
  have h80 := gv.1.1
  have hvl : (v : Int) < J.2 72 40 := by omega
  obtain ⟨a1, a2, a3, a4, a5, a6, a7, a8, a9, a10, -⟩ := gv.2.2.2.1 v hvl
  have b1 : isO T (auA J v) 11 14 := a1.eq p.1
  have h5 := a1.1
  have n0' : ¬ auA J v = 0 := by omega
  have T36 := p.lo (a := 36) (by decide) (by decide) (by decide)
  have hau : ev (WK L xs) 199 168 [vr 36, vi (v : Int)] T = some ((auA J v : Int), T) := by
    rw [q_168, T36, gv.2.1, if_neg (by first | decide | omega), if_pos hvl, if_pos (by first | decide | omega), Int.toNat_natCast, p.lo (a := 37) (by decide) (by decide) (by decide)]
    rfl
  have r0 : ∀ k, rdv (WK L xs) T (auA J v) k = J.2 (auA J v) k := fun k => by rw [rdvD h5, p.hi h5]
  have go := q_62_65 L xs 199 T y pt (n0 : Int) (k : Int) (v : Int)
  rw [if_pos (show (v : Int) < (n0 : Int) by omega), hau, bR, Int.toNat_natCast, if_neg n0', g14a b1, wj (j := v) (by first | decide | omega), wj (j := k) (by first | decide | omega)] at go
  simp only [k11 b1, r0, a3, a6, a10] at go
  by_cases c1 : J.2 97 v = 2
  rotate_left
  · rw [if_neg c1] at go
    exact ⟨fun _ => go, fun n _ _ z => absurd z.1 c1⟩
  rw [if_pos c1] at go
  by_cases c2 : J.2 100 v = y
  rotate_left
  · rw [if_neg c2] at go
    exact ⟨fun _ => go, fun n _ _ z => absurd z.2.1 c2⟩
  rw [if_pos c2] at go
  by_cases c3 : J.2 101 v = -1
  rotate_left
  · rw [if_neg c3] at go
    exact ⟨fun _ => go, fun n _ _ z => absurd z.2.2.1 c3⟩
  rw [if_pos c3, show ev (WK L xs) 199 19 [vr 15, vi (v : Int), vr (auA J v), vi y] T = _ from x_leftT (L := L) (xs := xs) (d := 194) H p hvl c1 ⟨hy.1, by omega⟩, bR, show ldiv (w64 (lft J.2 v y * pt)) 100 = cyV J.2 v y pt from rfl] at go
  simp only [lc_gt, min_pos] at go
  by_cases c4 : 0 < cyV J.2 v y pt
  rotate_left
  · rw [if_neg c4] at go
    exact ⟨fun _ => go, fun n _ _ z => absurd z.2.2.2 c4⟩
  rw [if_pos c4, q_166, T36, gv.2.1] at go
  by_cases c5 : J.2 72 40 < 80
  rotate_left
  · rw [if_neg c5, bR, if_neg (by decide)] at go
    exact ⟨fun _ => go, fun n e h _ => absurd (show J.2 72 40 < 80 by omega) c5⟩
  refine ⟨fun z => absurd ⟨⟨c1, c2, c3, c4⟩, c5⟩ z, fun n hn hn80 _ => ?_⟩
  obtain ⟨T', t1, t2, t3, t4⟩ := x_cyJ (L := L) (xs := xs) (d := 197) H p hn hn80 (show v < n by omega) (y := y) (pt := pt) hy
  rw [if_pos c5, bR, if_pos rfl, i32_min c4] at go
  exact ⟨T', go.trans (t1 _), t2, t3, t4⟩
/-- the reference's step -/
theorem m_clS (H : Inv J) (p : MR J W) {v n0 k : Nat} (hv : v < n0) (hn0 : (n0 : Int) ≤ J.2 72 40) (hk : k ≤ v) {y pt : Int} (hy : 0 ≤ y ∧ y < 9) :
    (J.2 72 40 < 80 → ¬ cyP J.2 v y pt → LQ (WK L xs) (ev (WK L xs) 199) 311 47 [some (vr 72), some (vi y), some (vi pt), some (vi (n0 : Int)), some (vi (k : Int)), some (vi (v : Int)), none, none, none] [] W = LQ (WK L xs) (ev (WK L xs) 199) 311 47 [some (vr 72), some (vi y), some (vi pt), some (vi (n0 : Int)), some (vi (k : Int)), some (vi ((v + 1 : Nat) : Int)), none, none, none] [] W) ∧
    (∀ n : Nat, J.2 72 40 = n → n < 80 → cyP J.2 v y pt → ∃ W', LQ (WK L xs) (ev (WK L xs) 199) 311 47 [some (vr 72), some (vi y), some (vi pt), some (vi (n0 : Int)), some (vi (k : Int)), some (vi (v : Int)), none, none, none] [] W = LQ (WK L xs) (ev (WK L xs) 199) 311 47 [some (vr 72), some (vi y), some (vi pt), some (vi (n0 : Int)), some (vi ((k + 1 : Nat) : Int)), some (vi ((v + 1 : Nat) : Int)), none, none, none] [] W' ∧ MR (cyJ J n v y pt) W' ∧ W'.1 = W.1 ∧ ∀ a, a < 72 ∨ 151 ≤ a ∨ a = 96 → W'.2 a = W.2 a) ∧
    (¬ J.2 72 40 < 80 → LQ (WK L xs) (ev (WK L xs) 199) 311 47 [some (vr 72), some (vi y), some (vi pt), some (vi (n0 : Int)), some (vi (k : Int)), some (vi (v : Int)), none, none, none] [] W = some ((k : Int), wr W 72 106 (w32 (J.2 72 106 + 1)))) := by
  have gv := H.gv
  have h80 := gv.1.1
  have hvl : (v : Int) < J.2 72 40 := by omega
  have qv : (0 : Int) ≤ (v : Int) ∧ (v : Int) < 80 := by omega
  have W72 := p 72 (by decide) (by decide) (by decide)
  obtain ⟨rk, rv, rp⟩ := p.ref H
  have go := q_311_47 L xs 199 W y pt (n0 : Int) (k : Int) (v : Int)
  rw [if_pos (show (v : Int) < (n0 : Int) by omega), W72] at go
  by_cases c0 : J.2 72 40 < 80
  rotate_left
  · rw [if_neg c0] at go
    exact ⟨fun z => absurd z c0, fun n e h _ => absurd (show J.2 72 40 < 80 by omega) c0, fun _ => go⟩
  rw [if_pos c0, wj (j := v) (by first | decide | omega)] at go
  simp only [if_pos qv, Int.toNat_natCast, p 97 (by decide) (by decide) (by decide), p 100 (by decide) (by decide) (by decide), p 101 (by decide) (by decide) (by decide)] at go
  by_cases c1 : J.2 97 v = 2
  rotate_left
  · rw [if_neg c1] at go
    exact ⟨fun _ _ => go, fun n _ _ z => absurd z.1 c1, fun z => absurd c0 z⟩
  rw [if_pos c1] at go
  by_cases c2 : J.2 100 v = y
  rotate_left
  · rw [if_neg c2] at go
    exact ⟨fun _ _ => go, fun n _ _ z => absurd z.2.1 c2, fun z => absurd c0 z⟩
  rw [if_pos c2] at go
  by_cases c3 : J.2 101 v = -1
  rotate_left
  · rw [if_neg c3] at go
    exact ⟨fun _ _ => go, fun n _ _ z => absurd z.2.2.1 c3, fun z => absurd c0 z⟩
  have hl := m_leftOf (L := L) (xs := xs) (d := 195) rk rv rp (v := v) (by rw [W72]; exact hvl) y
  rw [p.lf] at hl
  rw [if_pos c3, show ev (WK L xs) 199 246 [vr 72, vi (v : Int), vi y] W = _ from hl, bR, show ldiv (w64 (lft J.2 v y * pt)) 100 = cyV J.2 v y pt from rfl] at go
  simp only [lc_gt, lc_lt, p 98 (by decide) (by decide) (by decide)] at go
  by_cases c4 : 0 < cyV J.2 v y pt
  rotate_left
  · rw [if_neg c4] at go
    exact ⟨fun _ _ => go, fun n _ _ z => absurd z.2.2.2 c4, fun z => absurd c0 z⟩
  rw [if_pos c4] at go
  refine ⟨fun _ z => absurd ⟨c1, c2, c3, c4⟩ z, fun n hn hn80 _ => ?_, fun z => absurd c0 z⟩
  have hvn : v < n := by omega
  obtain ⟨U, u1, u2, u3⟩ := m_mkC (L := L) (xs := xs) (d := 198) (W := W) (n := n) (v := v) (by rw [W72]; exact hn) hn80 hvn (J.2 98 v) (min (cyV J.2 v y pt) 1000000000) (y + 1)
  have hU : MR (cyJ J n v y pt) U := fun a q1 q2 q3 => by
    funext j
    rw [u3, cyJ_r ⟨q1, q2, q3⟩, adH_cg (p a q1 q2 q3), W72]
  have hUc : ∀ a, a < 72 ∨ 151 ≤ a ∨ a = 96 → U.2 a = W.2 a := fun a q => by
    funext j
    rw [u3, adH_o (by first | decide | omega) (by first | decide | omega) (by first | decide | omega)]
  have fin : ∀ t0 : Int, i32 t0 = min (cyV J.2 v y pt) 1000000000 → LQ (WK L xs) (ev (WK L xs) 199) 311 150 [some (vr 72), some (vi y), some (vi pt), some (vi (n0 : Int)), some (vi (k : Int)), some (vi (v : Int)), none, none, none] [vl t0, vi (J.2 98 v), vi 2, vr 72] W = LQ (WK L xs) (ev (WK L xs) 199) 311 47 [some (vr 72), some (vi y), some (vi pt), some (vi (n0 : Int)), some (vi ((k + 1 : Nat) : Int)), some (vi ((v + 1 : Nat) : Int)), none, none, none] [] U := fun t0 ht => by
    rw [q_311_150, ht, w32e (x := y + 1) (by first | decide | omega) (by first | decide | omega), wj (j := k) (by first | decide | omega), wj (j := v) (by first | decide | omega)]
    exact u1 _
  refine ⟨U, ?_, hU, u2, hUc⟩
  by_cases c6 : cyV J.2 v y pt < 1000000000
  · rw [if_pos c6] at go
    exact go.trans (fin _ (i32_c1 c4 c6))
  · rw [if_neg c6] at go
    exact go.trans (fin _ (i32_c2 c6))
/-- the class's loop, once it is full -/
theorem x_clF (H : Inv J) (p : XR J T) (h80 : ¬ J.2 72 40 < 80) {n0 k : Nat} (hn0 : (n0 : Int) ≤ J.2 72 40) {y pt : Int} (hy : 0 ≤ y ∧ y < 9) : ∀ (m v : Nat), v + m = n0 → k ≤ v → LQ (WK L xs) (ev (WK L xs) 199) 62 65 [some (vr 15), some (vi y), some (vi pt), some (vi (n0 : Int)), some (vi (k : Int)), some (vi (v : Int)), none, none, none] [] T = some ((k : Int), T) := by
  intro m
  induction m with
  | zero =>
    intro v hv _
    rw [q_62_65, if_neg (by first | decide | omega)]
  | succ m ih =>
    intro v hv hk
    exact ((x_clS (L := L) (xs := xs) H p (v := v) (n0 := n0) (k := k) (by first | decide | omega) hn0 hk hy (pt := pt)).1 (fun z => h80 z.2)).trans (ih (v + 1) (by first | decide | omega) (by first | decide | omega))
end
end
section
-- 99r.oclose
/-! close: the call -/
section
variable {L : Nat} {xs : Nat → Int} {d : Nat} {S J T U W A : AH}
theorem cyJ_72 {n v : Nat} {y pt : Int} (j : Nat) : (cyJ J n v y pt).2 72 j = if j = 40 then (n : Int) + 1 else J.2 72 j := by
  rw [cyJ_r (by decide), adH_72]
theorem cyJ_lo {n v a : Nat} {y pt : Int} (i1 : 151 ≤ J.1.1) (h : a < 72) (h1 : a ≠ 36) (h2 : a ≠ 37) : (cyJ J n v y pt).2 a = J.2 a := by
  have e : (cyJ J n v y pt).2 a = (wr (wr (auS J 2 (J.2 98 v) (min (cyV J.2 v y pt) 1000000000) (y + 1) (J.2 72 2) (J.2 (auA J v) 5).toNat (-1)) 37 n (J.1.1 : Int)) 36 1 ((n : Int) + 1)).2 a := if_neg (by first | decide | omega)
  rw [e, wr_c h1, wr_c h2, (auS_hi (by first | decide | omega)).2]
theorem cyJ_sz {n v : Nat} {y pt : Int} : (cyJ J n v y pt).1.1 = J.1.1 + 2 ∧ (cyJ J n v y pt).1.2.1 = J.1.2.1 + 24 := ⟨rfl, rfl⟩
theorem cyJ_fr {n v : Nat} {y pt : Int} : Fr J (cyJ J n v y pt) := by
  refine ⟨by rw [cyJ_sz.1]; omega, fun a q1 q2 => ⟨?_, ?_⟩⟩
  · show (if a = J.1.1 + 1 then ((3, 10) : Nat × Nat) else if a = J.1.1 then (11, 14) else J.1.2.2 a) = _
    rw [if_neg (by first | decide | omega), if_neg (by first | decide | omega)]
  · have e : (cyJ J n v y pt).2 a = (wr (wr (auS J 2 (J.2 98 v) (min (cyV J.2 v y pt) 1000000000) (y + 1) (J.2 72 2) (J.2 (auA J v) 5).toNat (-1)) 37 n (J.1.1 : Int)) 36 1 ((n : Int) + 1)).2 a := if_neg (by first | decide | omega)
    rw [e, wr_c (by first | decide | omega), wr_c (by first | decide | omega), (auS_hi q2).2]
theorem cl_both {n0 : Nat} {y pt : Int} (hy : 0 ≤ y ∧ y < 9) : ∀ (m v k : Nat) (J : AH), v + m = n0 → k ≤ v → Inv J → (n0 : Int) ≤ J.2 72 40 → ∃ (J' : AH) (r : Int), Inv J' ∧ Fr J J' ∧ (J'.1.1 ≤ J.1.1 + 2 * m ∧ J'.1.2.1 ≤ J.1.2.1 + 24 * m) ∧ (∀ a, a < 72 → a ≠ 36 → a ≠ 37 → J'.2 a = J.2 a) ∧ (∀ j, j ≠ 40 → J'.2 72 j = J.2 72 j) ∧
    (∀ T, XR J T → ∃ T', LQ (WK L xs) (ev (WK L xs) 199) 62 65 [some (vr 15), some (vi y), some (vi pt), some (vi (n0 : Int)), some (vi (k : Int)), some (vi (v : Int)), none, none, none] [] T = some (r, T') ∧ XR J' T' ∧ T'.2 15 = T.2 15 ∧ ∀ a, (72 ≤ a ∧ a < 151) ∨ a = 35 → T'.2 a = T.2 a) ∧
    (∀ W, MR J W → ∃ W', LQ (WK L xs) (ev (WK L xs) 199) 311 47 [some (vr 72), some (vi y), some (vi pt), some (vi (n0 : Int)), some (vi (k : Int)), some (vi (v : Int)), none, none, none] [] W = some (r, wr W' 72 106 (w32 (J.2 72 106 + 1))) ∧ MR J' W' ∧ W'.1 = W.1 ∧ ∀ a, a < 72 ∨ 151 ≤ a ∨ a = 96 → W'.2 a = W.2 a) := by
  intro m
  induction m with
  | zero =>
    intro v k J hv hk H hn
    refine ⟨J, k, H, Fr.rf, ⟨by omega, by omega⟩, fun _ _ _ _ => rfl, fun _ _ => rfl, fun T p => ⟨T, ?_, p, rfl, fun _ _ => rfl⟩, fun W p => ⟨W, ?_, p, rfl, fun _ _ => rfl⟩⟩
    · rw [q_62_65, if_neg (by first | decide | omega)]
    · rw [q_311_47, if_neg (by first | decide | omega), p 72 (by decide) (by decide) (by decide)]
  | succ m ih =>
    intro v k J hv hk H hn
    have h80 := H.gv.1.1
    by_cases c0 : J.2 72 40 < 80
    rotate_left
    · refine ⟨J, k, H, Fr.rf, ⟨by omega, by omega⟩, fun _ _ _ _ => rfl, fun _ _ => rfl, fun T p => ⟨T, ?_, p, rfl, fun _ _ => rfl⟩, fun W p => ⟨W, ?_, p, rfl, fun _ _ => rfl⟩⟩
      · exact x_clF H p c0 hn hy (m + 1) v hv hk
      · exact (m_clS (L := L) (xs := xs) H p (v := v) (n0 := n0) (k := k) (by first | decide | omega) hn hk hy (pt := pt)).2.2 c0
    by_cases cP : cyP J.2 v y pt
    · obtain ⟨n, hnn⟩ := Int.eq_ofNat_of_zero_le h80.1
      have hn80 : n < 80 := by omega
      have HJ := H.cyJ hnn hn80 (show v < n by omega) hy cP.2.2.2
      have i1 := H.1
      obtain ⟨s1, s2⟩ := cyJ_sz (J := J) (n := n) (v := v) (y := y) (pt := pt)
      obtain ⟨J', r, j1, j2, j3, j4, j5, jT, jW⟩ := ih (v + 1) (k + 1) (cyJ J n v y pt) (by first | decide | omega) (by first | decide | omega) HJ (by rw [cyJ_72, if_pos rfl]; omega)
      refine ⟨J', r, j1, cyJ_fr.tr j2, ⟨by omega, by omega⟩, fun a q1 q2 q3 => by rw [j4 a q1 q2 q3, cyJ_lo i1 q1 q2 q3], fun j q => by rw [j5 j q, cyJ_72, if_neg q], fun T p => ?_, fun W p => ?_⟩
      · obtain ⟨T1, t1, t2, t3, t4⟩ := (x_clS (L := L) (xs := xs) H p (v := v) (n0 := n0) (k := k) (by first | decide | omega) hn hk hy (pt := pt)).2 n hnn hn80 cP
        obtain ⟨T2, u1, u2, u3, u4⟩ := jT T1 t2
        exact ⟨T2, t1.trans u1, u2, u3.trans t3, fun a q => (u4 a q).trans (t4 a q)⟩
      · obtain ⟨W1, t1, t2, t3, t4⟩ := (m_clS (L := L) (xs := xs) H p (v := v) (n0 := n0) (k := k) (by first | decide | omega) hn hk hy (pt := pt)).2.1 n hnn hn80 cP
        obtain ⟨W2, u1, u2, u3, u4⟩ := jW W1 t2
        rw [cyJ_72, if_neg (by decide)] at u1
        exact ⟨W2, t1.trans u1, u2, u3.trans t3, fun a q => (u4 a q).trans (t4 a q)⟩
    · obtain ⟨J', r, j1, j2, j3, j4, j5, jT, jW⟩ := ih (v + 1) k J (by first | decide | omega) (by first | decide | omega) H hn
      refine ⟨J', r, j1, j2, ⟨by omega, by omega⟩, j4, j5, fun T p => ?_, fun W p => ?_⟩
      · obtain ⟨T2, u1, u2⟩ := jT T p
        exact ⟨T2, ((x_clS (L := L) (xs := xs) H p (v := v) (n0 := n0) (k := k) (by first | decide | omega) hn hk hy (pt := pt)).1 (fun z => cP z.1)).trans u1, u2⟩
      · obtain ⟨W2, u1, u2⟩ := jW W p
        exact ⟨W2, ((m_clS (L := L) (xs := xs) H p (v := v) (n0 := n0) (k := k) (by first | decide | omega) hn hk hy (pt := pt)).1 c0 cP).trans u1, u2⟩
theorem Inv.clo (H : Inv S) {c : Int} (hc : 0 ≤ c ∧ c ≤ 9) : Inv (wr (wr S 15 2 c) 72 106 c) := by
  refine Inv.upd H ?_ (fun a ha => ?_) (fun k hk => ?_) ?_ ?_ ?_ ?_ ?_ ?_ ?_ ?_ ?_
  · repeat' first | refine Fr.tr ?_ (Fr.wr (by decide)) | exact Fr.rf
  · unfold lvk at ha
    repeat rw [wr_c (by first | decide | omega)]
  · unfold lvf at hk
    rcases hk with rfl | rfl | rfl | rfl | rfl | rfl <;> simp [wr_c, wr_f]
  · simp [HM, wr_c, wr_f]
  · exact H.gt.fr (by simp [wr_c, wr_f]) (by simp [wr_c, wr_f])
  · exact H.gc.fr (by simp [wr_c, wr_f]) (by simp [wr_c, wr_f])
  · simp [GX, wr_c, wr_f]
    omega
  · exact H.gb.fr (by simp [wr_c, wr_f]) (by simp [wr_c, wr_f]) (by simp [wr_c, wr_f]) (by simp [wr_c, wr_f])
  · exact H.gp.fr (by simp [wr_c, wr_f]) (by simp [wr_c, wr_f]) (fun a ha => by repeat rw [wr_c (by first | decide | omega)])
  · exact H.gu.fr (by simp [wr_c, wr_f]) (by simp [wr_c, wr_f]) (by simp [wr_c, wr_f]) (fun a ha => by repeat rw [wr_c (by first | decide | omega)])
  · exact H.gw.fr (by simp [wr_c, wr_f]) (by simp [wr_c, wr_f]) (by simp [wr_c, wr_f]) (by simp [wr_c, wr_f]) (fun a ha => by repeat rw [wr_c (by first | decide | omega)])
  · exact H.gn.fr (by simp [wr_c, wr_f]) (by simp [wr_c, wr_f]) (by simp [wr_c, wr_f]) (by simp [wr_c, wr_f]) (by simp [wr_c, wr_f]) (by simp [wr_c, wr_f]) (fun a ha => by repeat rw [wr_c (by first | decide | omega)])
theorem o_close (H : Inv S) (p : Int) : Ok L xs 62 311 [vi p] S := by
  have gx := H.gx
  have ht := H.gt
  have gv := H.gv
  have hyN := H.yN
  have i1 := H.1
  have yd : idiv (S.2 72 2) 360 = yr (S.2 72 2) := rfl
  by_cases c1 : p = S.2 72 106
  rotate_left
  · refine Ok.same (r := -1) H ?_ ?_
    · rw [q_62, gx.1, if_neg c1]
    · rw [q_311, if_neg c1]
  by_cases c2 : p < yr (S.2 72 2)
  rotate_left
  · refine Ok.same (r := -1) H ?_ ?_
    · rw [q_62, gx.1, if_pos c1, ht.1, x_yearOf, bR, if_neg c2]
    · rw [q_311, if_pos c1, m_year, bR, yd, if_neg c2]
  have gx2 := gx.2.1
  have hy : 0 ≤ p ∧ p < 9 := by omega
  have h80 := gv.1.1
  obtain ⟨n0, hn0⟩ := Int.eq_ofNat_of_zero_le h80.1
  have ed : w32 (w32 (w32 (p * 360) + 360) - 1) = p * 360 + 359 := by
    rw [w32e (x := p * 360) (by first | decide | omega) (by first | decide | omega), w32e (x := p * 360 + 360) (by first | decide | omega) (by first | decide | omega), w32e (by first | decide | omega) (by first | decide | omega)]
    omega
  have ed2 : w32 (w32 (w32 (360 * p) + 360) - 1) = p * 360 + 359 := by
    rw [Int.mul_comm 360 p]
    exact ed
  have ep : w32 (p + 1) = p + 1 := w32e (by first | decide | omega) (by first | decide | omega)
  -- the class: the number
  have glB : GL (wr S 15 2 (p + 1)) := H.gl.fr (Fr.wr (by decide)) (fun a q => wr_c (by unfold lvk at q; omega)) (fun k _ => by rw [wr_c (by decide)])
  obtain ⟨T0, t1, t2, t3⟩ := x_nmb (L := L) (xs := xs) (d := 194) glB (k := 1) (by decide) (p * 360 + 359)
  have eB : ∀ a, a ≠ 15 → (wr S 15 2 (p + 1)).2 a = S.2 a := fun a q => wr_c q
  rw [nmb_fr (h := S.2) 1 _ (eB 78 (by decide)) (eB 79 (by decide)) (eB 80 (by decide)) (eB 81 (by decide)) (eB 94 (by decide)) (eB 95 (by decide)) (by rw [eB 72 (by decide)])] at t1
  generalize hpt : nmb S.2 1 (p * 360 + 359) = pt at t1
  have T0c : ∀ a, a ≠ 15 → a ≠ 35 → T0.2 a = S.2 a := fun a q1 q2 => by rw [t3 a q2, eB a q1]
  have T015 : ∀ j, T0.2 15 j = if j = 2 then p + 1 else S.2 15 j := fun j => by rw [t3 15 (by decide), wr_f]
  have hXR : XR S T0 := ⟨t2, fun a q => T0c a (by first | decide | omega) (by first | decide | omega), by rw [T015, if_neg (by decide), ht.1]⟩
  obtain ⟨J, r, j1, j2, j3, j4, j5, jT, jW⟩ := cl_both (L := L) (xs := xs) (n0 := n0) (y := p) (pt := pt) hy n0 0 0 S (by first | decide | omega) (Nat.le_refl 0) H (by first | decide | omega)
  obtain ⟨T, x1, x2, x3, x4⟩ := jT T0 hXR
  have xx : ev (WK L xs) 200 62 [vr 15, vi p] S = some (r, T) := by
    rw [q_62, gx.1, if_pos c1, ht.1, x_yearOf, bR, if_pos c2, ed, gx.1, ← c1, ep, show ev (WK L xs) 199 108 [vr 31, vi 1, vi (p * 360 + 359)] (wr S 15 2 (p + 1)) = some (pt, T0) from t1, bR, T0c 36 (by decide) (by decide), gv.2.1, hn0]
    exact x1
  -- the reference
  have Tr : ∀ a, 72 ≤ a → a < 151 → T.2 a = S.2 a := fun a q1 q2 => by rw [x4 a (Or.inl ⟨q1, q2⟩), T0c a (by first | decide | omega) (by first | decide | omega)]
  have hFx : Fx (fun _ => False) S T := ⟨by rw [x2.1]; exact j2.1, fun a q1 q2 => ⟨by rw [x2.1, (j2.2 a q1 q2).1], fun _ => by rw [x2.hi q1, (j2.2 a q1 q2).2]⟩⟩
  have glT : GL T := H.gl.fx hFx (fun a q => q.elim) (fun a q => by
    by_cases c : a < 72
    · rw [x2.lo c (by first | decide | omega) (by first | decide | omega), j4 a c (by first | decide | omega) (by first | decide | omega)]
    · exact Tr a (by first | decide | omega) (by first | decide | omega)) (by rw [Tr 72 (by decide) (by decide)]) (fun t x _ q => q.cells (fun a q1 q2 => Tr a (by first | decide | omega) (by first | decide | omega)))
  obtain ⟨A, a1, a2, a3⟩ := m_nmb (L := L) (xs := xs) (d := 195) glT (k := 1) (by decide) (p * 360 + 359)
  rw [nmb_fr (h := S.2) 1 _ (Tr 78 (by decide) (by decide)) (Tr 79 (by decide) (by decide)) (Tr 80 (by decide) (by decide)) (Tr 81 (by decide) (by decide)) (Tr 94 (by decide) (by decide)) (Tr 95 (by decide) (by decide)) (by rw [Tr 72 (by decide) (by decide)]), hpt] at a1
  have hMR : MR S A := fun a q1 q2 q3 => by rw [a3 a q3, Tr a q1 q2]
  obtain ⟨V, v1, v2, v3, v4⟩ := jW A hMR
  have T72 := Tr 72 (by decide) (by decide)
  have mm : ev (WK L xs) 200 311 [vr 72, vi p] T = some (r, wr V 72 106 (w32 (S.2 72 106 + 1))) := by
    rw [q_311, T72, if_pos c1, m_year, bR, T72, yd, if_pos c2, ed2, show ev (WK L xs) 199 236 [vr 72, vi 99, vi (p * 360 + 359)] T = some (pt, A) from a1, bR, hMR 72 (by decide) (by decide) (by decide), hn0]
    exact v1
  rw [← c1, ep] at mm
  have F1 : V.1 = J.1 := v3.trans (a2.trans x2.1)
  obtain ⟨E, hE⟩ : ∃ E : AH, E = (J.1, fun a => if a = 35 ∨ a = 96 then V.2 a else J.2 a) := ⟨_, rfl⟩
  have E1 : E.1 = J.1 := by rw [hE]
  have Eo : ∀ a, a ≠ 35 → a ≠ 96 → E.2 a = J.2 a := fun a q1 q2 => by rw [hE]; exact if_neg (by first | decide | omega)
  have Ei : ∀ a, a = 35 ∨ a = 96 → E.2 a = V.2 a := fun a q => by rw [hE]; exact if_pos q
  have HE : Inv E := j1.scr (Fr.eq E1 (fun a q => Eo a (by first | decide | omega) (by first | decide | omega))) (fun a k q1 q2 => by rw [Eo a (fun e => q2 (by unfold scr; omega)) (fun e => q2 (by unfold scr; omega))])
  have hF : wr V 72 106 (p + 1) = wr (wr E 15 2 (p + 1)) 72 106 (p + 1) := by
    refine Prod.ext (F1.trans E1.symm) (funext fun a => funext fun j => ?_)
    by_cases c72 : a = 72
    · subst c72
      rw [wr_f, wr_f, wr_c (by decide), Eo 72 (by decide) (by decide), v2 72 (by decide) (by decide) (by decide)]
    rw [wr_c c72, wr_c c72]
    by_cases c15 : a = 15
    · subst c15
      rw [wr_f, v4 15 (Or.inl (by decide)), a3 15 (by decide), x3, T015, Eo 15 (by decide) (by decide), j4 15 (by decide) (by decide) (by decide)]
    rw [wr_c c15]
    by_cases cs : a = 35 ∨ a = 96
    · rw [Ei a cs]
    rw [Eo a (by first | decide | omega) (by first | decide | omega)]
    by_cases cr : 72 ≤ a ∧ a < 151
    · rw [v2 a cr.1 cr.2 (by first | decide | omega)]
    · rw [v4 a (by first | decide | omega), a3 a (by first | decide | omega), x2.2.1 a (by first | decide | omega)]
  rw [hF] at mm
  refine ⟨r, T, _, xx, mm, HE.clo (by first | decide | omega), ?_⟩
  unfold Gw
  show E.1.1 ≤ S.1.1 + 1000 ∧ E.1.2.1 ≤ S.1.2.1 + 10000
  rw [E1]
  omega
end
end
