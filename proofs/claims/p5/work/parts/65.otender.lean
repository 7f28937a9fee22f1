/-! tender: the call -/
section
variable {L : Nat} {xs : Nat → Int} {d : Nat} {S T U : AH}
/-- what a tender takes -/
noncomputable def tkS (h : Nat → Nat → Int) (p : Int) : List (Nat × Int) := tk (h 139) (h 140) (h 72 92).toNat (h 72 92).toNat p (fun _ => false)
theorem tkS_fr {h h' : Nat → Nat → Int} (e1 : h' 139 = h 139) (e2 : h' 140 = h 140) (e3 : h' 72 92 = h 72 92) (p : Int) : tkS h' p = tkS h p := by
  unfold tkS
  rw [e1, e2, e3]
theorem GN.tk (gn : GN S.2) {p : Int} (hp : 1 ≤ p ∧ p ≤ 1000000000) : (tkS S.2 p).length ≤ 12 ∧ (0 ≤ tks (tkS S.2 p) ∧ tks (tkS S.2 p) ≤ p) ∧ ∀ q ∈ tkS S.2 p, q.1 < (S.2 72 92).toNat ∧ 1 ≤ q.2 ∧ q.2 ≤ 1000000000 := by
  obtain ⟨⟨b1, b2⟩, b3, b4, -⟩ := gn
  have hs : ∀ b, b < (S.2 72 92).toNat → 1 ≤ S.2 139 b := fun b hb => (b4 b (by first | decide | omega)).2.2.1.1
  refine ⟨Nat.le_trans (tk_len _ _ _) (by first | decide | omega), tks_bd hs _ _ _ (by first | decide | omega), fun q hq => ?_⟩
  obtain ⟨z1, z2, z3⟩ := tk_mem hs _ _ _ q hq
  exact ⟨z1, z2, Int.le_trans z3 (b4 q.1 (by first | decide | omega)).2.2.1.2⟩
theorem x_take (gn : GN S.2) {p : Int} (hp : 1 ≤ p ∧ p ≤ 1000000000) : ∃ T, ev (WK L xs) (d + 2) 111 [vr 63, vi p] S = some (tks (tkS S.2 p), T) ∧ T.1 = S.1 ∧ (∀ a, a ≠ 63 → a ≠ 66 → a ≠ 67 → T.2 a = S.2 a) ∧ (∀ k, k ≠ 5 → T.2 63 k = S.2 63 k) ∧ T.2 63 5 = ((tkS S.2 p).length : Int) ∧ ∀ (j : Nat) (q : Nat × Int), (tkS S.2 p)[j]? = some q → T.2 66 j = q.1 ∧ T.2 67 j = q.2 := by
  obtain ⟨-, hb, -⟩ := gn.tk hp
  obtain ⟨⟨b1, b2⟩, b3, b4, -⟩ := gn
  obtain ⟨T, t1, t2, t3, t4, t5, -, t7⟩ := x_takeL (L := L) (xs := xs) (d := d) (n := (S.2 72 92).toNat) (by first | decide | omega) (p := p) (S.2 72 92).toNat 0 p 0 (fun _ => false) (wr S 63 5 0) (by first | decide | omega) (by rw [wr_f, if_pos rfl]; rfl) (by rw [wr_f, if_neg (by decide), b3]; omega) (by decide) (fun b _ => Nat.zero_testBit b) (by first | decide | omega) (by first | decide | omega) (fun b hb => by rw [wr_c (by decide), (b4 b (by first | decide | omega)).1]; exact (b4 b (by first | decide | omega)).2.2.1)
  have e : tk ((wr S 63 5 0).2 64) ((wr S 63 5 0).2 65) (S.2 72 92).toNat (S.2 72 92).toNat p (fun _ => false) = tkS S.2 p := by
    rw [wr_c (by decide), wr_c (by decide)]
    exact tk_cong (fun k hk => (b4 k (by first | decide | omega)).1) (fun k hk => (b4 k (by first | decide | omega)).2.1) _ _ _
  rw [e] at t1 t5 t7
  simp only [Nat.zero_add] at t5 t7
  refine ⟨T, ?_, t2, fun a q1 q2 q3 => by rw [t3 a q1 q2 q3, wr_c q1], fun k hk => by rw [t4 k hk, wr_f, if_neg hk], t5, t7⟩
  rw [q_111]
  refine t1.trans ?_
  rw [w64e (by first | decide | omega) (by first | decide | omega)]
  congr 2
  omega
theorem oweS_fr {h h' : Nat → Nat → Int} (e1 : h' 142 = h 142) (e2 : h' 145 = h 145) (e3 : h' 72 93 = h 72 93) : oweS h' = oweS h := by
  have : owd h' = owd h := by
    funext i
    unfold owd
    rw [e1, e2]
  unfold oweS
  rw [this, e3]
theorem m_owed2 (l1 : 0 ≤ S.2 72 93) (l2 : S.2 72 93 ≤ 30) : ev (WK L xs) (d + 1) 295 [vr 72] S = some (oweS S.2, S) := by
  have key : ∀ (m i : Nat), i + m = (S.2 72 93).toNat → LQ (WK L xs) (ev (WK L xs) d) 295 4 [some (vr 72), some (vl (w64 (sm (owd S.2) i))), none, some (vi (i : Int))] [] S = some (oweS S.2, S) := by
    intro m
    induction m with
    | zero =>
      intro i hi
      rw [q_295_4, if_neg (by first | decide | omega), show i = (S.2 72 93).toNat by omega]
      rfl
    | succ m ih =>
      intro i hi
      have e1 : (i : Int) + 1 = ((i + 1 : Nat) : Int) := by omega
      have hi2 := ih (i + 1) (by first | decide | omega)
      rw [sm_su (owd S.2) i] at hi2
      rw [q_295_4, if_pos (by first | decide | omega), if_pos (by first | decide | omega), if_pos (show (0 : Int) ≤ (i : Int) ∧ (i : Int) < 30 by omega), Int.toNat_natCast, w32e (by first | decide | omega) (by first | decide | omega), e1, w64_al, w64_al]
      by_cases h : S.2 145 i = -1
      · have : owd S.2 i = S.2 142 i := by unfold owd; rw [if_pos h]
        rw [if_pos h, ← this]
        exact hi2
      · have : owd S.2 i = 0 := by unfold owd; rw [if_neg h]
        rw [if_neg h]
        rw [this] at hi2
        exact hi2
  rw [q_295]
  exact key (S.2 72 93).toNat 0 (by first | decide | omega)
theorem o_tender (H : Inv S) (p q : Int) : Ok L xs 48 293 [vi p, vi q] S := by
  have gn := H.gn
  have ht := H.gt.1
  by_cases hp : 1 ≤ p ∧ p ≤ 1000000000
  · obtain ⟨k1, k2, k3⟩ := gn.tk hp
    generalize hl : tkS S.2 p = l at k1 k2 k3
    obtain ⟨⟨b1, b2⟩, b3, b4, ⟨l1, l2⟩, l3, l4, l5⟩ := gn
    obtain ⟨n, hnn⟩ := Int.eq_ofNat_of_zero_le b1
    obtain ⟨sz, hsz⟩ := Int.eq_ofNat_of_zero_le l1
    have hn12 : n ≤ 12 := by omega
    have hen : (S.2 72 92).toNat = n := by omega
    rw [hen] at k3
    -- the class
    obtain ⟨T, t1, t2, t3, t4, t5, t6⟩ := x_take (L := L) (xs := xs) (d := 197) H.gn hp
    rw [hl] at t1 t5 t6
    have glT : GL T := H.gl.fr (Fr.eq t2 (fun a ha => t3 a (by first | decide | omega) (by first | decide | omega) (by first | decide | omega))) (fun a ha => t3 a (by unfold lvk at ha; omega) (by unfold lvk at ha; omega) (by unfold lvk at ha; omega)) (fun k _ => by rw [t3 72 (by decide) (by decide) (by decide)])
    obtain ⟨V, v1, v2, v3⟩ := x_nmb (L := L) (xs := xs) (d := 194) glT (k := 2) (by decide) (S.2 72 2)
    have cT : ∀ a, a ≠ 35 → a ≠ 63 → a ≠ 66 → a ≠ 67 → V.2 a = S.2 a := fun a q0 q1 q2 q3 => by rw [v3 a q0, t3 a q1 q2 q3]
    have c63 : ∀ k, k ≠ 5 → V.2 63 k = S.2 63 k := fun k hk => by rw [v3 63 (by decide), t4 k hk]
    have eN : nmb T.2 2 (S.2 72 2) = nmb S.2 2 (S.2 72 2) := nmb_fr 2 _ (t3 78 (by decide) (by decide) (by decide)) (t3 79 (by decide) (by decide) (by decide)) (t3 80 (by decide) (by decide) (by decide)) (t3 81 (by decide) (by decide) (by decide)) (t3 94 (by decide) (by decide) (by decide)) (t3 95 (by decide) (by decide) (by decide)) (by rw [t3 72 (by decide) (by decide) (by decide)])
    rw [eN] at v1
    generalize hNm : nmb S.2 2 (S.2 72 2) = nm at v1
    have HV : Inv V := H.scr (Fr.eq (v2.trans t2) (fun a ha => cT a (by first | decide | omega) (by first | decide | omega) (by first | decide | omega) (by first | decide | omega))) (fun a k _ q2 => by
      by_cases e : a = 63
      · subst e
        exact c63 k (fun z => q2 (by unfold scr; omega))
      · rw [cT a (fun z => q2 (by unfold scr; omega)) e (fun z => q2 (by unfold scr; omega)) (fun z => q2 (by unfold scr; omega))])
    have eO : oweS V.2 = oweS S.2 := oweS_fr (cT 142 (by decide) (by decide) (by decide) (by decide)) (cT 145 (by decide) (by decide) (by decide) (by decide)) (by rw [cT 72 (by decide) (by decide) (by decide) (by decide)])
    have vO := x_owed (L := L) (xs := xs) (d := 198) HV.gn
    rw [eO] at vO
    generalize hO : oweS S.2 = ow at vO eO
    have v72 : V.2 72 = S.2 72 := cT 72 (by decide) (by decide) (by decide) (by decide)
    have x48 : ev (WK L xs) 200 48 [vr 15, vi p, vi q] S = if w64 (nm * 1000) < w64 (ow + tks l) then some (-1, V) else if 30 < (sz : Int) + l.length then some (-1, V) else bindR (ev (WK L xs) 199 115 [vr 63, vi (S.2 72 2), vi q] (wr V 15 1 (w64 (S.2 72 3 + tks l)))) (fun r S2 => some (r, S2)) := by
      rw [q_48, x_isSum, bR]
      simp only [bi_0]
      rw [if_neg (by first | decide | omega), if_neg (by first | decide | omega), t1, bR, t3 15 (by decide) (by decide) (by decide), ht]
      rw [show ev (WK L xs) 199 108 [vr 31, vi 2, vi (S.2 72 2)] T = some (nm, V) from v1, bR, vO, bR]
      simp only [lc_gt]
      by_cases c1 : w64 (nm * 1000) < w64 (ow + tks l)
      · rw [if_pos c1, if_pos c1]
      · rw [if_neg c1, if_neg c1, q_114, v3 63 (by decide), t5, t4 10 (by decide), l3, hsz, w32e (by first | decide | omega) (by first | decide | omega)]
        by_cases c2 : 30 < (sz : Int) + l.length
        · rw [if_pos c2, if_pos c2, bR, if_neg (by decide)]
        · rw [if_neg c2, if_neg c2, bR, if_pos rfl, cT 15 (by decide) (by decide) (by decide) (by decide), ht, H.gc.1]
    -- the reference up to the refusals, at any state that keeps what it reads
    have m293 : ∀ W : AH, W.1 = S.1 → GL W → (∀ a, a = 72 ∨ a = 139 ∨ a = 140 ∨ a = 142 ∨ a = 145 ∨ (78 ≤ a ∧ a ≤ 81) ∨ a = 94 ∨ a = 95 → W.2 a = S.2 a) → ∃ Z, Z.1 = S.1 ∧ (∀ a, a ≠ 96 → a ≠ 141 → Z.2 a = W.2 a) ∧ ev (WK L xs) 200 293 [vr 72, vi p, vi q] W = if w64 (nm * 1000) < w64 (ow + tks l) then some (-1, Z) else if 30 < (sz : Int) + l.length then some (-1, Z) else LQ (WK L xs) (ev (WK L xs) 199) 293 163 [some (vr 72), none, some (vi q), some (vi p), some (vi ((l.length : Nat) : Int)), some (vi (hiR (S.2 140) l 0)), none, some (vi 0)] [] Z := by
      intro W w1 glW wc
      have w72 := wc 72 (by first | decide | omega)
      have w139 := wc 139 (by first | decide | omega)
      have w140 := wc 140 (by first | decide | omega)
      obtain ⟨A, a1, a2, a3, a4⟩ := m_clr1 (L := L) (xs := xs) (d := 198) (n := n) hn12 (p := p) (one := q) n 0 W (by first | decide | omega) (by rw [w72]; exact hnn) (fun b hb => by omega)
      obtain ⟨B, g1, g2, g3⟩ := m_tk1 (L := L) (xs := xs) (d := 198) (n := n) hn12 (p := p) (one := q) n 0 p 0 (fun _ => false) A (by first | decide | omega) (by rw [cn_none]; omega) (by rw [a3 72 (by decide), w72]; exact hnn) (fun b hb => by rw [a4 b hb]; rfl) (by first | decide | omega) (by first | decide | omega) (fun b hb => by rw [a3 139 (by decide), w139]; exact (b4 b (by first | decide | omega)).2.2.1)
      rw [a3 139 (by decide), a3 140 (by decide), w139, w140] at g1
      rw [w140] at a1
      have el : tk (S.2 139) (S.2 140) n n p (fun _ => false) = l := by
        rw [← hl]
        unfold tkS
        rw [hen]
      rw [el, Nat.zero_add] at g1
      have cB : ∀ a, a ≠ 141 → B.2 a = W.2 a := fun a ha => by rw [g3 a ha, a3 a ha]
      have glB : GL B := glW.fr (Fr.eq (g2.trans a2) (fun a ha => cB a (by first | decide | omega))) (fun a ha => cB a (by unfold lvk at ha; omega)) (fun k _ => by rw [cB 72 (by decide)])
      obtain ⟨Z, z1, z2, z3⟩ := m_nmb (L := L) (xs := xs) (d := 195) glB (k := 2) (by decide) (S.2 72 2)
      have eB : nmb B.2 2 (S.2 72 2) = nm := by
        rw [← hNm]
        exact nmb_fr 2 _ (by rw [cB 78 (by decide), wc 78 (by first | decide | omega)]) (by rw [cB 79 (by decide), wc 79 (by first | decide | omega)]) (by rw [cB 80 (by decide), wc 80 (by first | decide | omega)]) (by rw [cB 81 (by decide), wc 81 (by first | decide | omega)]) (by rw [cB 94 (by decide), wc 94 (by first | decide | omega)]) (by rw [cB 95 (by decide), wc 95 (by first | decide | omega)]) (by rw [cB 72 (by decide), w72])
      have eOB : oweS B.2 = ow := by
        rw [← hO]
        exact oweS_fr (by rw [cB 142 (by decide), wc 142 (by first | decide | omega)]) (by rw [cB 145 (by decide), wc 145 (by first | decide | omega)]) (by rw [cB 72 (by decide), w72])
      rw [eB] at z1
      refine ⟨Z, by rw [z2, g2, a2, w1], fun a q1 q2 => by rw [z3 a q1, cB a q2], ?_⟩
      have mO := m_owed2 (L := L) (xs := xs) (d := 198) (S := B) (by rw [cB 72 (by decide), w72]; exact l1) (by rw [cB 72 (by decide), w72]; exact l2)
      rw [eOB] at mO
      rw [q_293, m_lies, bR]
      simp only [bi_0]
      rw [if_neg (by first | decide | omega)]
      refine a1.trans (g1.trans ?_)
      rw [q_293_115, mO, bR, cB 72 (by decide), w72]
      rw [show ev (WK L xs) 199 236 [vr 72, vi 98, vi (S.2 72 2)] B = some (nm, Z) from z1, bR, z3 72 (by decide), cB 72 (by decide), w72]
      simp only [lc_gt]
      rw [w64_sl, show ow + p - (p - tks l) = ow + tks l by omega, Int.mul_comm 1000 nm, show S.2 72 93 = (sz : Int) from hsz, w32e (by first | decide | omega) (by first | decide | omega)]
    by_cases c1 : w64 (nm * 1000) < w64 (ow + tks l)
    · rw [if_pos c1] at x48
      obtain ⟨Z, z1, z2, z3⟩ := m293 V (v2.trans t2) HV.gl (fun a ha => cT a (by first | decide | omega) (by first | decide | omega) (by first | decide | omega) (by first | decide | omega))
      rw [if_pos c1] at z3
      exact ⟨-1, V, Z, x48, z3, HV.scr (Fr.eq (z1.trans (v2.trans t2).symm) (fun a ha => z2 a (by first | decide | omega) (by first | decide | omega))) (fun a k _ q2 => by rw [z2 a (fun z => q2 (by unfold scr; omega)) (fun z => q2 (by unfold scr; omega))]), Gw.of z1⟩
    rw [if_neg c1] at x48
    by_cases c2 : 30 < (sz : Int) + l.length
    · rw [if_pos c2] at x48
      obtain ⟨Z, z1, z2, z3⟩ := m293 V (v2.trans t2) HV.gl (fun a ha => cT a (by first | decide | omega) (by first | decide | omega) (by first | decide | omega) (by first | decide | omega))
      rw [if_neg c1, if_pos c2] at z3
      exact ⟨-1, V, Z, x48, z3, HV.scr (Fr.eq (z1.trans (v2.trans t2).symm) (fun a ha => z2 a (by first | decide | omega) (by first | decide | omega))) (fun a k _ q2 => by rw [z2 a (fun z => q2 (by unfold scr; omega)) (fun z => q2 (by unfold scr; omega))]), Gw.of z1⟩
    rw [if_neg c2] at x48
    -- the class lends
    generalize hC : w64 (S.2 72 3 + tks l) = ch at x48
    obtain ⟨X, x1, x2, x3, x4, x5, x6, x7, x8⟩ := x_lendL (L := L) (xs := xs) (d := 198) (T := wr V 15 1 ch) (n := n) (sz := sz) (l := l) (day := S.2 72 2) (one := q) hn12 (by rw [wr_c (by decide), c63 2 (by decide), b3, hnn]) (by rw [wr_c (by decide), v3 63 (by decide), t5]) k1 (by first | decide | omega) (fun q hq => (k3 q hq).1) (fun j q hq => by rw [wr_c (by decide), wr_c (by decide), v3 66 (by decide), v3 67 (by decide)]; exact t6 j q hq) l.length 0 (wr V 15 1 ch) (by first | decide | omega) rfl (fun _ _ _ => rfl) (fun _ _ => rfl) (by rw [wr_c (by decide), c63 10 (by decide), l3, hsz]; rfl) (fun _ _ _ _ _ => rfl) (fun j _ hj => by omega)
    have x115 : ev (WK L xs) 199 115 [vr 63, vi (S.2 72 2), vi q] (wr V 15 1 ch) = some ((l.length : Int), X) := by
      rw [q_115]
      exact x1
    rw [x115, bR] at x48
    have cX : ∀ a, a ≠ 15 → a ≠ 35 → a ≠ 63 → ¬ (66 ≤ a ∧ a ≤ 71) → X.2 a = S.2 a := fun a q0 q1 q2 q3 => by rw [x3 a q2 (by first | decide | omega), wr_c q0, cT a q1 q2 (by first | decide | omega) (by first | decide | omega)]
    have X15 : ∀ k, X.2 15 k = if k = 1 then ch else S.2 15 k := fun k => by rw [x3 15 (by decide) (by decide), wr_f, cT 15 (by decide) (by decide) (by decide) (by decide)]
    have X63 : ∀ k, k ≠ 2 → k ≠ 5 → k ≠ 10 → X.2 63 k = S.2 63 k := fun k q1 q2 q3 => by rw [x4 k q3 q1, wr_c (by decide), c63 k q2]
    have hX1 : X.1 = S.1 := x2.trans (v2.trans t2)
    have glX : GL X := H.gl.fr (Fr.eq hX1 (fun a ha => cX a (by first | decide | omega) (by first | decide | omega) (by first | decide | omega) (by first | decide | omega))) (fun a ha => cX a (by unfold lvk at ha; omega) (by unfold lvk at ha; omega) (by unfold lvk at ha; omega) (by unfold lvk at ha; omega)) (fun k _ => by rw [cX 72 (by decide) (by decide) (by decide) (by decide)])
    obtain ⟨Z, z1, z2, z3⟩ := m293 X hX1 glX (fun a ha => cX a (by first | decide | omega) (by first | decide | omega) (by first | decide | omega) (by first | decide | omega))
    rw [if_neg c1, if_neg c2] at z3
    have cZ : ∀ a, a ≠ 15 → a ≠ 35 → a ≠ 63 → ¬ (66 ≤ a ∧ a ≤ 71) → a ≠ 96 → a ≠ 141 → Z.2 a = S.2 a := fun a q0 q1 q2 q3 q4 q5 => by rw [z2 a q4 q5, cX a q0 q1 q2 q3]
    have Z72 : Z.2 72 = S.2 72 := cZ 72 (by decide) (by decide) (by decide) (by decide) (by decide) (by decide)
    have Z139 : Z.2 139 = S.2 139 := cZ 139 (by decide) (by decide) (by decide) (by decide) (by decide) (by decide)
    have Z140 : Z.2 140 = S.2 140 := cZ 140 (by decide) (by decide) (by decide) (by decide) (by decide) (by decide)
    obtain ⟨A, a1, a2, a3, a4⟩ := m_clr2 (L := L) (xs := xs) (d := 199) (n := n) hn12 (one := q) (x3 := p) (x4 := ((l.length : Nat) : Int)) (x5 := hiR (S.2 140) l 0) n 0 Z (by first | decide | omega) (by rw [Z72]; exact hnn) (fun b hb => by omega)
    have el : tk (A.2 139) (A.2 140) n n p (fun _ => false) = l := by
      rw [a3 139 (by decide), a3 140 (by decide), Z139, Z140, ← hl]
      unfold tkS
      rw [hen]
    obtain ⟨F, f1, f2, f3, f4, f5, f6, f7, f8, f9⟩ := m_tk3 (L := L) (xs := xs) (d := 198) (n := n) (N := l.length) hn12 (one := q) (high := hiR (S.2 140) l 0) n 0 sz p (fun _ => false) A (by rw [el]; omega) (by rw [a3 72 (by decide), Z72]; exact hnn) (by rw [a3 72 (by decide), Z72]; exact hsz) (by rw [el]; omega) k1 (fun b hb => by rw [a4 b hb]; rfl) (by first | decide | omega) (by first | decide | omega) (fun b hb => by rw [a3 139 (by decide), Z139]; exact (b4 b (by first | decide | omega)).2.2.1) (by rw [a3 72 (by decide), Z72]; exact H.gc.2)
    rw [el] at f6 f7 f9
    rw [a3 72 (by decide), Z72] at f7 f9
    rw [a3 140 (by decide), Z140] at f9
    have F1 : F.1 = S.1 := by rw [f2, a2, z1]
    have cF : ∀ a, a ≠ 15 → a ≠ 35 → a ≠ 63 → ¬ (66 ≤ a ∧ a ≤ 71) → a ≠ 72 → a ≠ 96 → ¬ (141 ≤ a ∧ a ≤ 145) → F.2 a = S.2 a := fun a q0 q1 q2 q3 q4 q5 q6 => by rw [f3 a q4 q6, a3 a (by first | decide | omega), cZ a q0 q1 q2 q3 q5 (by first | decide | omega)]
    have cG : ∀ a, a = 15 ∨ a = 63 ∨ (66 ≤ a ∧ a ≤ 71) → F.2 a = X.2 a := fun a ha => by rw [f3 a (by first | decide | omega) (by first | decide | omega), a3 a (by first | decide | omega), z2 a (by first | decide | omega) (by first | decide | omega)]
    have F72 : ∀ k, k ≠ 3 → k ≠ 92 → k ≠ 93 → F.2 72 k = S.2 72 k := fun k q1 q2 q3 => by rw [f4 k q1 q2 q3, a3 72 (by decide), Z72]
    have F15 : ∀ k, F.2 15 k = if k = 1 then ch else S.2 15 k := fun k => by rw [cG 15 (by first | decide | omega), X15 k]
    refine ⟨(l.length : Int), X, F, x48, z3.trans (a1.trans f1), ?_, Gw.of F1⟩
    refine Inv.upd H (Fr.eq F1 (fun a ha => cF a (by first | decide | omega) (by first | decide | omega) (by first | decide | omega) (by first | decide | omega) (by first | decide | omega) (by first | decide | omega) (by first | decide | omega))) (fun a ha => ?_) (fun k hk => F72 k (by unfold lvf at hk; omega) (by unfold lvf at hk; omega) (by unfold lvf at hk; omega)) ?_ ?_ ?_ ?_ ?_ ?_ ?_ ?_ ?_
    · unfold lvk at ha
      exact cF a (by first | decide | omega) (by first | decide | omega) (by first | decide | omega) (by first | decide | omega) (by first | decide | omega) (by first | decide | omega) (by first | decide | omega)
    · unfold HM
      rw [F72 4 (by decide) (by decide) (by decide), F72 5 (by decide) (by decide) (by decide)]
      exact ⟨Int.le_refl _, Int.le_refl _⟩
    · exact H.gt.fr (by rw [F15 0, if_neg (by decide)]) (F72 2 (by decide) (by decide) (by decide))
    · unfold GC
      rw [F15 1, if_pos rfl, f7, ← hC, w64_i]
      exact ⟨rfl, rfl⟩
    · exact H.gx.fr (by rw [F15 2, if_neg (by decide)]) (F72 106 (by decide) (by decide) (by decide))
    · exact H.gb.fr (by rw [F15 _, if_neg (by decide)]) (F72 1 (by decide) (by decide) (by decide)) (cF 16 (by decide) (by decide) (by decide) (by decide) (by decide) (by decide) (by decide)) (cF 73 (by decide) (by decide) (by decide) (by decide) (by decide) (by decide) (by decide))
    · exact H.gp.fr (F72 4 (by decide) (by decide) (by decide)) (F72 5 (by decide) (by decide) (by decide)) (fun a ha => cF a (by first | decide | omega) (by first | decide | omega) (by first | decide | omega) (by first | decide | omega) (by first | decide | omega) (by first | decide | omega) (by first | decide | omega))
    · exact H.gu.fr (F72 79 (by decide) (by decide) (by decide)) (by rw [cF 50 (by decide) (by decide) (by decide) (by decide) (by decide) (by decide) (by decide)]) (by rw [cF 50 (by decide) (by decide) (by decide) (by decide) (by decide) (by decide) (by decide)]) (fun a ha => cF a (by first | decide | omega) (by first | decide | omega) (by first | decide | omega) (by first | decide | omega) (by first | decide | omega) (by first | decide | omega) (by first | decide | omega))
    · exact H.gw.fr (F72 85 (by decide) (by decide) (by decide)) (F72 87 (by decide) (by decide) (by decide)) (by rw [cF 54 (by decide) (by decide) (by decide) (by decide) (by decide) (by decide) (by decide)]) (by rw [cF 54 (by decide) (by decide) (by decide) (by decide) (by decide) (by decide) (by decide)]) (fun a ha => cF a (by first | decide | omega) (by first | decide | omega) (by first | decide | omega) (by first | decide | omega) (by first | decide | omega) (by first | decide | omega) (by first | decide | omega))
    · unfold GN
      rw [f5, f6, F72 86 (by decide) (by decide) (by decide), cG 63 (by first | decide | omega), x5, x6, X63 11 (by decide) (by decide) (by decide), cG 68 (by first | decide | omega), cG 69 (by first | decide | omega), cG 70 (by first | decide | omega), cG 71 (by first | decide | omega)]
      refine ⟨by omega, rfl, fun b hb => by omega, by omega, rfl, l4, fun i hi => ?_⟩
      by_cases hi2 : i < sz
      · rw [x7 68 i (by decide) (by decide) hi2, x7 69 i (by decide) (by decide) hi2, x7 70 i (by decide) (by decide) hi2, x7 71 i (by decide) (by decide) hi2, f8 142 i (by decide) (by decide) hi2, f8 143 i (by decide) (by decide) hi2, f8 144 i (by decide) (by decide) hi2, f8 145 i (by decide) (by decide) hi2, wr_c (by decide), wr_c (by decide), wr_c (by decide), wr_c (by decide), cT 68 (by decide) (by decide) (by decide) (by decide), cT 69 (by decide) (by decide) (by decide) (by decide), cT 70 (by decide) (by decide) (by decide) (by decide), cT 71 (by decide) (by decide) (by decide) (by decide), a3 142 (by decide), a3 143 (by decide), a3 144 (by decide), a3 145 (by decide), cZ 142 (by decide) (by decide) (by decide) (by decide) (by decide) (by decide), cZ 143 (by decide) (by decide) (by decide) (by decide) (by decide) (by decide), cZ 144 (by decide) (by decide) (by decide) (by decide) (by decide) (by decide), cZ 145 (by decide) (by decide) (by decide) (by decide) (by decide) (by decide)]
        exact l5 i (by first | decide | omega)
      · obtain ⟨j, hj⟩ := Nat.exists_eq_add_of_le (show sz ≤ i by omega)
        subst hj
        have hjl : j < l.length := by omega
        have hx : l[j]? = some l[j] := List.getElem?_eq_getElem hjl
        obtain ⟨y1, y2, y3, y4⟩ := x8 j _ hx
        obtain ⟨w1, w2, w3, w4⟩ := f9 j _ hx
        obtain ⟨m1, m2, m3⟩ := k3 l[j] (List.getElem_mem hjl)
        have hne : l ≠ [] := fun z => by rw [z] at hjl; exact Nat.not_lt_zero _ hjl
        have hlm : (l.getLast hne).1 < n := (k3 _ (List.getLast_mem hne)).1
        have hrt : rto ((wr V 15 1 ch).2 65) l q l[j] = (if q = 0 then S.2 140 l[j].1 else hiR (S.2 140) l 0) := by
          unfold rto hiR
          rw [wr_c (by decide), cT 65 (by decide) (by decide) (by decide) (by decide), List.getLast?_eq_getLast hne]
          by_cases c3 : q = 0
          · rw [if_pos c3, if_pos c3]
            exact (b4 _ (by first | decide | omega)).2.1
          · rw [if_neg c3, if_neg c3]
            show S.2 65 (l.getLast hne).1 = S.2 140 (l.getLast hne).1
            exact (b4 _ (by first | decide | omega)).2.1
        have hrb : 0 ≤ (if q = 0 then S.2 140 l[j].1 else hiR (S.2 140) l 0) ∧ (if q = 0 then S.2 140 l[j].1 else hiR (S.2 140) l 0) ≤ 9999 := by
          unfold hiR
          rw [List.getLast?_eq_getLast hne]
          by_cases c3 : q = 0
          · rw [if_pos c3]
            exact (b4 _ (by first | decide | omega)).2.2.2
          · rw [if_neg c3]
            exact (b4 _ (by first | decide | omega)).2.2.2
        rw [y1, y2, y3, y4, w1, w2, w3, w4, hrt]
        exact ⟨⟨rfl, rfl, rfl, rfl⟩, ⟨m2, m3⟩, hrb, H.gt.2⟩
  · refine Ok.same (r := -1) H ?_ ?_
    · rw [q_48, x_isSum, bR]
      simp only [bi_0]
      by_cases h1 : 0 ≤ p ∧ p ≤ 1000000000
      · rw [if_neg (fun z => z h1), if_pos (by first | decide | omega)]
      · rw [if_pos h1]
    · rw [q_293, m_lies, bR]
      simp only [bi_0]
      rw [if_pos (by first | decide | omega)]
end
