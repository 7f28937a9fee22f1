/-! the class's bar of an authority -/
section
variable {L : Nat} {xs : Nat → Int} {d : Nat} {S S' T U W A : AH} {c : Nat}
theorem m1_ok : ((List.range 16).all fun j => decide (iand (ishr (-1) (j : Int)) 1 = 1)) = true := by decide +kernel
theorem m1_bit (j : Nat) (hj : j < 16) : iand (ishr (-1) (j : Int)) 1 = 1 := of_decide_eq_true (List.all_eq_true.mp m1_ok j (List.mem_range.mpr hj))
theorem Qf.inv (q : Qf A T) (H : Inv A) : Inv T := H.scr q.fr (fun a k q1 q2 => by
  by_cases e : a = 22
  · exact absurd (by unfold scr; omega) q2
  · rw [q.2.1 a e])
theorem Qf.wh (q : Qf A T) : Wh A.2 T.2 := ⟨fun a q1 _ _ _ _ => q.2.1 a (by first | decide | omega), fun k _ _ => by rw [q.2.1 72 (by decide)]⟩
/-- one text, in a state behind others -/
theorem x_textQ (hA : Tld A A c) {l : Int} (h6 : A.2 26 6 = l) (hQ : Qf A T) {a tt : Nat} (hT : TX A a tt) {mk : Nat → Bool} {x2 : Int} (hm : ∀ j : Nat, j < 16 → (iand (ishr x2 (j : Int)) 1 = 0 ↔ mk j = false)) : ∃ U, ev (WK L xs) (d + 70) 158 [vr 22, vr a, vi x2] T = some (tbR A.2 c l mk tt (A.2 78 tt).toNat 0, U) ∧ Qf A U := by
  have w := hQ.wh
  have fT : FA T (leC T.2 c l) (udC T.2 c) := by
    rw [(w.le c l).1, (w.le c l).2.1]
    exact hQ.fa (hA.fa h6)
  obtain ⟨U, u1, u2⟩ := x_barText (L := L) (xs := xs) (d := d) (hQ.tx hT) fT (by rw [hQ.2.2 12 (by decide), hQ.2.1 113 (by decide)]; exact hA.2.2.2.2.1) hm
  rw [hQ.2.1 78 (by decide), w.tb] at u1
  exact ⟨U, u1, hQ.tr u2⟩
theorem x_lawB (H : Inv A) (hA : Tld A A c) {l : Int} (h6 : A.2 26 6 = l) : ∀ (m i : Nat) (T : AH), (i : Int) + m = A.2 72 36 → Qf A T → ∃ U, LQ (WK L xs) (ev (WK L xs) (d + 70)) 30 154 [some (vr 15), none, none, none, none, none, none, none, none, some (vi 0), some (vi (i : Int))] [] T = some (laR A.2 c l (mkL A.2) m i, U) ∧ Qf A U := by
  have gl := H.gl
  have hl0 := gl.2.1
  have hl20 := gl.2.2.1
  intro m
  induction m with
  | zero =>
    intro i T hi hQ
    refine ⟨T, ?_, hQ⟩
    rw [q_30_154, hQ.2.1 31 (by decide), gl.1, if_neg (by first | decide | omega)]
    rfl
  | succ m ih =>
    intro i T hi hQ
    have hil : (i : Int) < A.2 72 36 := by omega
    have q20 : (0 : Int) ≤ (i : Int) ∧ (i : Int) < 20 := by omega
    have e1 : w32 ((i : Int) + 1) = ((i + 1 : Nat) : Int) := by
      rw [w32e (by first | decide | omega) (by first | decide | omega)]
      rfl
    have hTX := (gl.2.2.2 i hil).2.2
    obtain ⟨z, z1, z2, z3⟩ := hA.2.2.1 i hil
    have h103 : ∀ dd, ev (WK L xs) (dd + 1) 103 [vr 31, vi (i : Int)] T = some (1, T) := fun dd => by
      rw [q_103, hQ.2.1 31 (by decide), gl.1, rng, bi_T ⟨q20.1, hil⟩]
    obtain ⟨U, u1, u2⟩ := x_textQ (L := L) (xs := xs) (d := d) hA h6 hQ hTX (mk := mkL A.2 i) (x2 := (z : Int)) (fun j hj => by
      rw [bit16 z2 hj, z3 j hj]
      cases mkL A.2 i j <;> decide)
    have go := q_30_154 L xs (d + 70) T 0 (i : Int)
    rw [hQ.2.1 31 (by decide), gl.1, if_pos hil, if_pos rfl, q_106, h103, bR, if_neg (by decide), if_pos q20, bR, q_107, h103, bR, if_neg (by decide), if_pos q20, bR] at go
    simp only [Int.toNat_natCast, hQ.2.1 32 (by decide), hQ.2.1 35 (by decide), z1] at go
    rw [u1, bR, e1] at go
    show ∃ U, LQ (WK L xs) (ev (WK L xs) (d + 70)) 30 154 [some (vr 15), none, none, none, none, none, none, none, none, some (vi 0), some (vi (i : Int))] [] T = some (if tbR A.2 c l (mkL A.2 i) i (A.2 78 i).toNat 0 ≠ 0 then tbR A.2 c l (mkL A.2 i) i (A.2 78 i).toNat 0 else laR A.2 c l (mkL A.2) m (i + 1), U) ∧ Qf A U
    by_cases y : tbR A.2 c l (mkL A.2 i) i (A.2 78 i).toNat 0 = 0
    · obtain ⟨V, v1, v2⟩ := ih (i + 1) U (by first | decide | omega) u2
      rw [if_neg (fun w => w y)]
      rw [y] at go
      exact ⟨V, go.trans v1, v2⟩
    · rw [if_pos y]
      refine ⟨U, go.trans ?_, u2⟩
      rw [q_30_154]
      split
      · rfl
      · rfl
theorem x_ceL (H : Inv S) {v : Nat} (hc : (c : Int) < S.2 72 52) {y : Int} (hy : 0 ≤ y ∧ y < 10) : ∀ (m x : Nat), x + m = (S.2 72 40).toNat → LQ (WK L xs) (ev (WK L xs) (d + 5)) 31 3 [some (vr 15), some (vr (clA S c)), some (vi (v : Int)), some (vi y), some (vi (x : Int)), none] [] S = some (if ceL S.2 c v y m x = true then 1 else 0, S) := by
  have gv := H.gv
  have gk := H.gk
  have hn := gv.1.1
  obtain ⟨-, r2, -⟩ := gk.1.2.2.2.1 c hc
  obtain ⟨b1, b2, b3, b4, b5, -⟩ := gk.2.2.2.2.1 c hc
  intro m
  induction m with
  | zero =>
    intro x hx
    rw [q_31_3, gv.2.1, if_neg (by first | decide | omega)]
    rfl
  | succ m ih =>
    intro x hx
    have hxl : (x : Int) < S.2 72 40 := by omega
    have e1 : w32 ((x : Int) + 1) = ((x + 1 : Nat) : Int) := by
      rw [w32e (by first | decide | omega) (by first | decide | omega)]
      rfl
    obtain ⟨-, s2, -⟩ := gv.1.2.1 x hxl
    obtain ⟨a1, a2, a3, a4, a5, a6, a7, a8, a9, a10, -⟩ := gv.2.2.2.1 x hxl
    have hi := ih (x + 1) (by first | decide | omega)
    have h5 := a1.1
    have go := q_31_3 L xs (d + 5) S (clA S c) (v : Int) y (x : Int)
    rw [gv.2.1, if_pos hxl, x_au gv hxl, bR, Int.toNat_natCast, if_neg (by first | decide | omega), g14a a1, e1] at go
    simp only [k11 a1, k12 b1, rdvD h5, rdvD b1.1, a3, a4, a8, a10, b3] at go
    rw [x_isUnder H.gp, bR, x_leftOf H hxl hy, bR, hi] at go
    simp only [k12 b1, rdvD b1.1, b5, bi_0, lc_lt] at go
    show _ = some (if (ceP S.2 c v y x || ceL S.2 c v y m (x + 1)) = true then 1 else 0, S)
    by_cases c1 : S.2 97 x = 1
    rotate_left
    · rw [if_neg c1] at go
      rw [show ceP S.2 c v y x = false from decide_eq_false (fun z => c1 z.1), Bool.false_or]
      exact go
    rw [if_pos c1, if_pos c1] at go
    by_cases c2 : S.2 102 x = v
    rotate_left
    · rw [if_neg c2] at go
      rw [show ceP S.2 c v y x = false from decide_eq_false (fun z => c2 z.2.1), Bool.false_or]
      exact go
    rw [if_pos c2] at go
    by_cases c3 : S.2 101 x = -1
    rotate_left
    · rw [if_neg c3] at go
      rw [show ceP S.2 c v y x = false from decide_eq_false (fun z => c3 z.2.2.1), Bool.false_or]
      exact go
    rw [if_pos c3] at go
    by_cases c4 : uN S.2 (S.2 109 c) (S.2 98 x) = true
    rotate_left
    · rw [if_pos (fun z => c4 z.2.2)] at go
      rw [show ceP S.2 c v y x = false from decide_eq_false (fun z => c4 z.2.2.2.1), Bool.false_or]
      exact go
    rw [if_neg (fun z => z ⟨r2, s2, c4⟩)] at go
    by_cases c5 : lft S.2 x y < S.2 111 c
    · rw [if_pos c5] at go
      rw [show ceP S.2 c v y x = true from decide_eq_true ⟨c1, c2, c3, c4, c5⟩, Bool.true_or, if_pos rfl]
      exact go
    · rw [if_neg c5] at go
      rw [show ceP S.2 c v y x = false from decide_eq_false (fun z => c5 z.2.2.2.2), Bool.false_or]
      exact go
theorem x_bar (H : Inv S) (hS : Tld S S c) {v : Nat} (hc : (c : Int) < S.2 72 52) (hv : (v : Int) < S.2 72 40) (hk1 : S.2 97 v ≠ 1) : ∃ U, ev (WK L xs) (d + 71) 30 [vr 15, vr (clA S c), vi (v : Int), vr (auA S v)] S = some (barV S.2 c v, U) ∧ Tld S U c := by
  have gv := H.gv
  have gk := H.gk
  have hn := gv.1.1
  have hcn := gv.1.2.2.2.1
  have hy := H.yN
  have ht := H.gt.1
  obtain ⟨-, r2, -, -, r5, -⟩ := gk.1.2.2.2.1 c hc
  obtain ⟨b1, b2, b3, b4, b5, b6, -⟩ := gk.2.2.2.2.1 c hc
  obtain ⟨-, s2, -, -, -, -, -, s8⟩ := gv.1.2.1 v hv
  obtain ⟨a1, a2, a3, a4, a5, a6, a7, a8, a9, a10, a11, a12, a13, a14, a15, a16⟩ := gv.2.2.2.1 v hv
  have h5 := a1.1
  have n0 : ¬ auA S v = 0 := by omega
  rw [if_neg hk1] at a9
  -- behind what it has
  have k100 : ∀ t : Int, ∃ U, LQ (WK L xs) (ev (WK L xs) (d + 70)) 30 100 [some (vr 15), some (vr (clA S c)), some (vi (v : Int)), some (vr (auA S v)), some (vi (yr (S.2 72 2))), some (vl (lft S.2 v (yr (S.2 72 2)))), none, none, none, none, none] [vl t] S = some (if t < S.2 111 c then 3 else if ceL S.2 c v (yr (S.2 72 2)) (S.2 72 40).toNat 0 = true then 4 else btR S.2 c v (lft S.2 v (yr (S.2 72 2))), U) ∧ Tld S U c := by
    intro t
    have hce := x_ceL (L := L) (xs := xs) (d := d + 64) H (v := v) hc hy (S.2 72 40).toNat 0 (by first | decide | omega)
    have h31 : ev (WK L xs) (d + 70) 31 [vr 15, vr (clA S c), vi (v : Int), vi (yr (S.2 72 2))] S = _ := (q_31 L xs (d + 69) S (clA S c) (v : Int) (yr (S.2 72 2))).trans hce
    rw [q_30_100, k12 b1, rdvD b1.1, b5]
    simp only [lc_lt]
    by_cases c1 : t < S.2 111 c
    · rw [if_pos c1, if_pos c1]
      exact ⟨S, rfl, hS⟩
    rw [if_neg c1, if_neg c1, h31, bR]
    by_cases c2 : ceL S.2 c v (yr (S.2 72 2)) (S.2 72 40).toNat 0 = true
    · rw [if_pos c2, if_pos c2, if_neg (by decide)]
      exact ⟨S, rfl, hS⟩
    rw [if_neg c2, if_neg c2, if_pos rfl, q_157, if_pos (by decide), bR]
    generalize hl : lft S.2 v (yr (S.2 72 2)) = l
    have pA := hS.wl l
    generalize hAA : wr S 26 6 l = A at pA ⊢
    have A6 : A.2 26 6 = l := by rw [← hAA, wr_f, if_pos rfl]
    have HA := pA.inv H
    have a1A : isO A (auA S v) 11 14 := a1.eq pA.1
    have eA : A.2 (auA S v) = S.2 (auA S v) := pA.hi _ (by first | decide | omega)
    have tA : TX A (S.2 (auA S v) 5).toNat (20 + v) := a15.fr ⟨by rw [pA.1]; exact Nat.le_refl _, fun a q1 _ => ⟨by rw [pA.1], pA.hi a (by first | decide | omega)⟩⟩ (fun a q1 q2 => pA.hi a (by first | decide | omega))
    obtain ⟨U, u1, u2⟩ := x_textQ (L := L) (xs := xs) (d := d) pA.re A6 Qf.rf tA (mk := mkA) (x2 := -1) (fun j hj => by
      rw [m1_bit j hj]
      show (1 : Int) = 0 ↔ true = false
      decide)
    have eL : A.2 72 = S.2 72 := pA.hi 72 (by decide)
    have hl0 := HA.gl.2.1
    obtain ⟨V, v1, v2⟩ := x_lawB (L := L) (xs := xs) (d := d) HA pA.re A6 (A.2 72 36).toNat 0 U (by first | decide | omega) u2
    rw [pA.wh.tb, pA.hi 78 (by decide)] at u1
    rw [pA.wh.la, pA.wh.mk, eL] at v1
    rw [k11 a1A, rdvD h5, eA, u1, bR]
    unfold btR
    by_cases z : tbR S.2 c l mkA (20 + v) (S.2 78 (20 + v)).toNat 0 = 0
    · rw [z, if_neg (fun y => y rfl)]
      exact ⟨V, v1, (pA.qf v2)⟩
    · rw [if_pos z]
      refine ⟨U, ?_, pA.qf u2⟩
      rw [q_30_154]
      split
      · rfl
      · rfl
  have go := q_30 L xs (d + 70) S (clA S c) (v : Int) (auA S v)
  rw [ht, x_yearOf, bR, if_neg n0, g14a a1] at go
  simp only [k11 a1, k12 b1, rdvD h5, rdvD b1.1, a4, a9, a10, b3, b6] at go
  rw [x_isUnder H.gp, bR, x_isOf gv hv, bR, x_leftOf H hv hy, bR] at go
  simp only [k11 a1, k12 b1, rdvD h5, rdvD b1.1, a9, a10, b6, bi_0] at go
  unfold barV
  by_cases c1 : uN S.2 (S.2 109 c) (S.2 98 v) = true
  rotate_left
  · rw [if_pos (fun z => c1 z.2.2)] at go
    rw [if_pos (Or.inl (nf c1))]
    exact ⟨S, go, hS⟩
  rw [if_neg (fun z => z ⟨r2, s2, c1⟩)] at go
  by_cases c2 : ofY S.2 v (yr (S.2 72 2)) = true
  rotate_left
  · rw [if_pos c2] at go
    rw [if_pos (Or.inr (nf c2))]
    exact ⟨S, go, hS⟩
  rw [if_neg (fun z => z c2)] at go
  rw [if_neg (fun z => z.elim (fun y => by rw [c1] at y; cases y) (fun y => by rw [c2] at y; cases y))]
  by_cases c3 : S.2 101 v = -1
  rotate_left
  · rw [if_neg c3] at go
    rw [if_pos (Or.inl c3)]
    exact ⟨S, go, hS⟩
  rw [if_pos c3] at go
  by_cases c5 : S.2 102 v = -1
  rotate_left
  · rw [if_neg c5] at go
    have k4 : S.2 97 v = 4 := by
      by_cases z : S.2 97 v = 4
      · exact z
      · exact absurd (s8 hk1 z) c5
    rw [if_pos (Or.inr ⟨k4, c5⟩)]
    exact ⟨S, go, hS⟩
  rw [if_pos c5] at go
  rw [if_neg (fun z => z.elim (fun y => y c3) (fun y => y.2 c5))]
  unfold hasV
  by_cases c6 : S.2 112 c = -1
  · rw [if_pos c6] at go
    rw [if_pos c6]
    obtain ⟨U, u1, u2⟩ := k100 (lft S.2 v (yr (S.2 72 2)))
    exact ⟨U, go.trans u1, u2⟩
  · obtain ⟨k, hkk⟩ := Int.eq_ofNat_of_zero_le (show 0 ≤ S.2 112 c by omega)
    rw [if_neg c6, hkk, x_boundBy gv gk (by first | decide | omega) hy, bR] at go
    rw [if_neg c6, hkk, Int.toNat_natCast]
    obtain ⟨U, u1, u2⟩ := k100 (bnd S.2 k (yr (S.2 72 2)))
    exact ⟨U, go.trans u1, u2⟩
end
