/-! close: class and reference apart, over a state that both stand for -/
/-- the class's part of a state -/
noncomputable def XR (J T : AH) : Prop := T.1 = J.1 ∧ (∀ a, (a < 72 ∧ a ≠ 15 ∧ a ≠ 35) ∨ 151 ≤ a → T.2 a = J.2 a) ∧ T.2 15 0 = J.2 72 2
/-- the reference's part -/
noncomputable def MR (J W : AH) : Prop := ∀ a, 72 ≤ a → a < 151 → a ≠ 96 → W.2 a = J.2 a
/-- what a carry carries -/
noncomputable def cyV (h : Nat → Nat → Int) (v : Nat) (y pt : Int) : Int := ldiv (w64 (lft h v y * pt)) 100
noncomputable def cyP (h : Nat → Nat → Int) (v : Nat) (y pt : Int) : Prop := h 97 v = 2 ∧ h 100 v = y ∧ h 101 v = -1 ∧ 0 < cyV h v y pt
/-- a state with one carry more -/
noncomputable def cyJ (J : AH) (n v : Nat) (y pt : Int) : AH := ((auS J 2 (J.2 98 v) (min (cyV J.2 v y pt) 1000000000) (y + 1) (J.2 72 2) (J.2 (auA J v) 5).toNat (-1)).1, fun a => if 72 ≤ a ∧ a < 151 ∧ a ≠ 96 then adH n v (J.2 98 v) (min (cyV J.2 v y pt) 1000000000) (y + 1) (J.2 72 2) J.2 a else (wr (wr (auS J 2 (J.2 98 v) (min (cyV J.2 v y pt) 1000000000) (y + 1) (J.2 72 2) (J.2 (auA J v) 5).toNat (-1)) 37 n (J.1.1 : Int)) 36 1 ((n : Int) + 1)).2 a)
section
variable {L : Nat} {xs : Nat → Int} {d : Nat} {S J T U W A : AH}
theorem cyJ_r {n v a : Nat} {y pt : Int} (h : 72 ≤ a ∧ a < 151 ∧ a ≠ 96) : (cyJ J n v y pt).2 a = adH n v (J.2 98 v) (min (cyV J.2 v y pt) 1000000000) (y + 1) (J.2 72 2) J.2 a := if_pos h
theorem x_isConT (gv : GV J) (h36 : T.2 36 = J.2 36) (p : Int) : ev (WK L xs) (d + 1) 172 [vr 36, vi p] T = some (bi (0 ≤ p ∧ p < J.2 72 70), T) := by
  rw [q_172, h36, gv.2.2.1, rng]
theorem x_boundByT (gv : GV J) (gk : GK J) (hT : ∀ a, 36 ≤ a → a ≤ 42 → T.2 a = J.2 a) {k : Nat} (hk : (k : Int) < J.2 72 70) {y : Int} (hy : 0 ≤ y ∧ y < 10) : ev (WK L xs) (d + 2) 171 [vr 36, vi (k : Int), vi y] T = some (bnd J.2 k y, T) := by
  have hkn := gv.1.2.2.2.1
  obtain ⟨-, ⟨s1, s2⟩, -⟩ := gv.1.2.2.2.2 k hk
  obtain ⟨c1, c2, c3, c4⟩ := gv.2.2.2.2.2.1 k hk
  obtain ⟨n, hn⟩ := Int.eq_ofNat_of_zero_le hy.1
  subst hn
  have hp := gv.2.2.2.2.2.2 k n (by first | decide | omega) (by first | decide | omega)
  have hb := smC_bd gk.1 (P := fun c => pin J.2 c n = true ∧ J.2 112 c = k) (n := nClaims J.2) (Nat.le_refl _)
  have hb2 : 0 ≤ pct J.2 k n ∧ pct J.2 k n ≤ 300000000000 := hb
  have hq : (0 : Int) ≤ (k : Int) ∧ (k : Int) < 20 := by omega
  rw [q_171, x_isConT gv (hT 36 (by decide) (by decide)), bR]
  simp only [bi_0]
  rw [if_neg (fun z => z ⟨by omega, hk⟩), x_isYear, bR]
  simp only [bi_0]
  rw [if_neg (fun z => z hy), w32e (x := (k : Int) * 10) (by first | decide | omega) (by first | decide | omega), w32e (by first | decide | omega) (by first | decide | omega), if_pos (show (0 : Int) ≤ (k : Int) * 10 + (n : Int) ∧ (k : Int) * 10 + (n : Int) < 200 by omega), hT 39 (by decide) (by decide), hT 40 (by decide) (by decide), hT 41 (by decide) (by decide), hT 42 (by decide) (by decide)]
  simp only [if_pos hq, Int.toNat_natCast]
  rw [show ((k : Int) * 10 + (n : Int)).toNat = k * 10 + n by omega, hp, c2, c3, c4]
  unfold bnd
  by_cases h1 : (n : Int) < J.2 126 k
  · rw [if_pos h1, if_neg (by first | decide | omega)]
  · rw [if_neg h1]
    by_cases h2 : J.2 127 k < n
    · rw [if_pos h2, if_neg (by first | decide | omega)]
    · rw [if_neg h2, if_pos (by first | decide | omega), w64e (by first | decide | omega) (by first | decide | omega)]
theorem x_boundOfT (gv : GV J) (gk : GK J) (hT : ∀ a, 36 ≤ a → a ≤ 42 → T.2 a = J.2 a) (v : Int) {y : Int} (hy : 0 ≤ y ∧ y < 10) : ev (WK L xs) (d + 3) 170 [vr 36, vi v, vi y] T = some (w64 (bns J.2 v y), T) := by
  have hkn := gv.1.2.2.2.1
  have key : ∀ (m k : Nat), k + m = (J.2 72 70).toNat → LQ (WK L xs) (ev (WK L xs) (d + 2)) 170 5 [some (vr 36), some (vi v), some (vi y), some (vl (w64 (sm (bnf J.2 v y) k))), none, some (vi (k : Int))] [] T = some (w64 (bns J.2 v y), T) := by
    intro m
    induction m with
    | zero =>
      intro k hk
      rw [q_170_5, hT 36 (by decide) (by decide), gv.2.2.1, if_neg (by first | decide | omega), show k = (J.2 72 70).toNat by omega]
      rfl
    | succ m ih =>
      intro k hk
      have e1 : (k : Int) + 1 = ((k + 1 : Nat) : Int) := by omega
      have hi2 := ih (k + 1) (by first | decide | omega)
      obtain ⟨c1, -⟩ := gv.2.2.2.2.2.1 k (by first | decide | omega)
      rw [sm_su (bnf J.2 v y) k] at hi2
      rw [q_170_5, hT 36 (by decide) (by decide), gv.2.2.1, if_pos (by first | decide | omega), if_pos (by first | decide | omega), Int.toNat_natCast, hT 38 (by decide) (by decide), c1, w32e (by first | decide | omega) (by first | decide | omega), e1]
      by_cases h : J.2 124 k = v
      · have : bnf J.2 v y k = bnd J.2 k y := by unfold bnf; rw [if_pos h]
        rw [this] at hi2
        rw [if_pos h, x_boundByT gv gk hT (by first | decide | omega) hy, bR, w64_al]
        exact hi2
      · have : bnf J.2 v y k = 0 := by unfold bnf; rw [if_neg h]
        rw [this, Int.add_zero] at hi2
        rw [if_neg h]
        exact hi2
  rw [q_170]
  have := key (J.2 72 70).toNat 0 (by first | decide | omega)
  exact this
theorem XR.hi (p : XR J T) {a : Nat} (h : 151 ≤ a) : T.2 a = J.2 a := p.2.1 a (Or.inr h)
theorem XR.lo (p : XR J T) {a : Nat} (h : a < 72) (h1 : a ≠ 15) (h2 : a ≠ 35) : T.2 a = J.2 a := p.2.1 a (Or.inl ⟨h, h1, h2⟩)
theorem x_spentT (gv : GV J) (p : XR J T) {v : Nat} (hv : (v : Int) < J.2 72 40) (h1 : J.2 97 v ≠ 1) {y : Int} (hy : 0 ≤ y ∧ y < 10) : ev (WK L xs) (d + 2) 71 [vr (auA J v), vi y] T = some (pby J.2 v y, T) := by
  obtain ⟨a1, a2, a3, a4, a5, a6, a7, a8, a9, a10, a11, a12, a13, a14, a15, a16⟩ := gv.2.2.2.1 v hv
  obtain ⟨n, hn⟩ := Int.eq_ofNat_of_zero_le hy.1
  subst hn
  have b1 : isO T (auA J v) 11 14 := a1.eq p.1
  have b2 : isO T (spA J v) 3 10 := a2.eq p.1
  have e13 : (T.2 (auA J v) 13).toNat = spA J v := by rw [p.hi a1.1]; rfl
  rw [q_71, x_isYear, bR]
  simp only [bi_0]
  rw [if_neg (fun z => z hy), k11 b1, rdvD b1.1, e13, shpD b2.1, b2.2.2, rdvD b2.1, Int.toNat_natCast, if_pos (show (0 : Int) ≤ (n : Int) ∧ (n : Int) < ((3, 10) : Nat × Nat).2 by show (0 : Int) ≤ (n : Int) ∧ (n : Int) < ((10 : Nat) : Int); omega), p.hi a2.1, (a16 h1 n (by first | decide | omega)).1]
  rfl
theorem x_leftT (H : Inv J) (p : XR J T) {v : Nat} (hv : (v : Int) < J.2 72 40) (h2 : J.2 97 v = 2) {y : Int} (hy : 0 ≤ y ∧ y < 10) : ev (WK L xs) (d + 5) 19 [vr 15, vi (v : Int), vr (auA J v), vi y] T = some (lft J.2 v y, T) := by
  have gv := H.gv
  obtain ⟨a1, a2, a3, a4, a5, a6, a7, a8, a9, a10, a11, a12, a13, a14, a15, a16⟩ := gv.2.2.2.1 v hv
  obtain ⟨-, -, -, -, -, -, -, r8⟩ := gv.1.2.1 v hv
  have h1 : ¬ J.2 97 v = 1 := by rw [h2]; decide
  have h4 : ¬ J.2 97 v = 4 := by rw [h2]; decide
  have ov := r8 h1 h4
  have b1 : isO T (auA J v) 11 14 := a1.eq p.1
  have eo : T.2 (auA J v) = J.2 (auA J v) := p.hi a1.1
  have h5 := a1.1
  rw [if_neg h1] at a9
  rw [q_19]
  simp only [k11 b1, k11b b1, rdvD h5, eo, a3, a5, a9, a13, a14]
  unfold lft
  rw [if_neg h1, if_neg h1, if_pos ov, if_neg (fun z => z ov), x_spentT gv p hv h1 hy, bR, x_boundOfT gv H.gk (fun a q1 q2 => p.lo (by first | decide | omega) (by first | decide | omega) (by first | decide | omega)) _ hy, bR, w64_sr, w64_ar, w64_sl, Int.sub_sub (w64 (J.2 99 v + (J.2 106 v - J.2 107 v))), w64_sl]
  congr 2
  congr 1
  omega
theorem MR.ref (H : Inv J) (p : MR J W) : RK W.2 ∧ RV W.2 ∧ RP W.2 := H.ref p
theorem MR.lf (p : MR J W) : lft W.2 = lft J.2 := lft_fr (fun a q => p a (by first | decide | omega) (by first | decide | omega) (by first | decide | omega)) (by rw [p 72 (by decide) (by decide) (by decide)]) (by rw [p 72 (by decide) (by decide) (by decide)])
/-- the class's carry -/
theorem x_cyJ (H : Inv J) (p : XR J T) {n v : Nat} (hn : J.2 72 40 = n) (hn80 : n < 80) (hv : v < n) {y pt : Int} (hy : 0 ≤ y ∧ y < 9) : ∃ T', (∀ F : Int → AH → Rs, gd (Nat.beq (shp (WK L xs) (nw T 11 14) (auA J v)).1 11) (gd (Nat.beq (shp (WK L xs) (nw T 11 14) (auA J v)).1 11) (gd (Nat.beq (shp (WK L xs) (nw T 11 14) T.1.1).1 11 && Nat.ble 2 8) (bindR (ev (WK L xs) (d + 2) 70 [vr T.1.1, vi (2 : Int), vi (rdv (WK L xs) (nw T 11 14) (auA J v) 1), vi (min (cyV J.2 v y pt) 1000000000), vi (w32 (y + (1 : Int))), vi ((nw T 11 14).2 15 0), vr (rdv (WK L xs) (nw T 11 14) (auA J v) 5).toNat, vi (-1 : Int)] (nw T 11 14)) (fun r7 S8 => (bindR (ev (WK L xs) (d + 2) 167 [vr 36, vr T.1.1] S8) F))))) = F n T') ∧ XR (cyJ J n v y pt) T' ∧ T'.2 15 = T.2 15 ∧ ∀ a, (72 ≤ a ∧ a < 151) ∨ a = 35 → T'.2 a = T.2 a := by
  have gv := H.gv
  have i1 := H.1
  have hvl : (v : Int) < J.2 72 40 := by omega
  obtain ⟨a1, a2, a3, a4, -⟩ := gv.2.2.2.1 v hvl
  have h5 := a1.1
  have ha := a1.2.1
  have T1 : T.1.1 = J.1.1 := by rw [p.1]
  have iT : 151 ≤ T.1.1 := by omega
  have oA : isO (nw T 11 14) (auA J v) 11 14 := ⟨h5, by show auA J v < T.1.1 + 1; omega, by rw [nw_s, if_neg (by first | decide | omega), p.1]; exact a1.2.2⟩
  have hs : (nw T 11 14).1.2.2 T.1.1 = (11, 14) := by rw [nw_s, if_pos rfl]
  have g1 : ∀ r : Rs, gd (Nat.beq (shp (WK L xs) (nw T 11 14) T.1.1).1 11 && Nat.ble 2 8) r = r := fun r => by rw [shpD iT, hs]; rfl
  have e1 : (nw T 11 14).2 (auA J v) 1 = J.2 98 v := by rw [nw_2, if_neg (by first | decide | omega), p.hi h5, a4]
  have e5 : (nw T 11 14).2 (auA J v) 5 = J.2 (auA J v) 5 := by rw [nw_2, if_neg (by first | decide | omega), p.hi h5]
  have e15 : (nw T 11 14).2 15 0 = J.2 72 2 := by rw [nw_2, if_neg (by first | decide | omega), p.2.2]
  generalize hs' : min (cyV J.2 v y pt) 1000000000 = s
  generalize htx : (J.2 (auA J v) 5).toNat = tx
  generalize hB : auS T 2 (J.2 98 v) s (y + 1) (J.2 72 2) tx (-1) = B
  have loB : ∀ a, a < T.1.1 → B.2 a = T.2 a := fun a q => by rw [← hB, (auS_hi q).2]
  have oB : isO B T.1.1 11 14 := by rw [← hB]; exact (auS_o iT).1
  have eB : B.2 36 1 = n := by rw [loB 36 (by first | decide | omega), p.lo (by decide) (by decide) (by decide), gv.2.1, hn]
  refine ⟨wr (wr B 37 n (T.1.1 : Int)) 36 1 ((n : Int) + 1), fun F => ?_, ⟨?_, fun a q => ?_, ?_⟩, ?_, fun a q => ?_⟩
  · rw [k11 oA, k11 oA, g1, rdvD h5, rdvD h5, e1, e5, e15, htx, w32e (x := y + 1) (by first | decide | omega) (by first | decide | omega), x_newAu iT, bR, hB, x_addAu oB eB hn80, bR]
  · show B.1 = _
    unfold cyJ
    rw [← hB, hs', htx]
    show ((T.1.1 + 1 + 1, T.1.2.1 + 14 + 10, fun b => if b = T.1.1 + 1 then (3, 10) else if b = T.1.1 then (11, 14) else T.1.2.2 b) : AG) = (J.1.1 + 1 + 1, J.1.2.1 + 14 + 10, fun b => if b = J.1.1 + 1 then (3, 10) else if b = J.1.1 then (11, 14) else J.1.2.2 b)
    rw [p.1]
  · show _ = if 72 ≤ a ∧ a < 151 ∧ a ≠ 96 then _ else _
    rw [if_neg (by first | decide | omega), hs', htx, T1]
    have eBJ : ∀ b, (b < 72 ∧ b ≠ 15 ∧ b ≠ 35) ∨ 151 ≤ b → B.2 b = (auS J 2 (J.2 98 v) s (y + 1) (J.2 72 2) tx (-1)).2 b := fun b qb => by
      rw [← hB]
      show (if b = T.1.1 then auF 2 (J.2 98 v) s (y + 1) (J.2 72 2) tx (-1) (T.1.1 + 1) else if b = T.1.1 + 1 then fun _ => 0 else T.2 b) = (if b = J.1.1 then auF 2 (J.2 98 v) s (y + 1) (J.2 72 2) tx (-1) (J.1.1 + 1) else if b = J.1.1 + 1 then fun _ => 0 else J.2 b)
      rw [T1, p.2.1 b qb]
    funext j
    by_cases c6 : a = 36
    · subst c6
      rw [wr_f, wr_f, wr_c (by decide), wr_c (by decide), eBJ 36 q]
    · rw [wr_c c6, wr_c c6]
      by_cases c7 : a = 37
      · subst c7
        rw [wr_f, wr_f, eBJ 37 q]
      · rw [wr_c c7, wr_c c7, eBJ a q]
  · rw [cyJ_r (by decide), adH_72, if_neg (by decide), wr_c (by decide), wr_c (by decide), loB 15 (by first | decide | omega), p.2.2]
  · rw [wr_c (by decide), wr_c (by decide), loB 15 (by first | decide | omega)]
  · rw [wr_c (by first | decide | omega), wr_c (by first | decide | omega), loB a (by first | decide | omega)]
/-- what holds with one carry more -/
theorem Inv.cyJ (H : Inv J) {n v : Nat} (hn : J.2 72 40 = n) (hn80 : n < 80) (hv : v < n) {y pt : Int} (hy : 0 ≤ y ∧ y < 9) (hc : 0 < cyV J.2 v y pt) : Inv (_root_.Jvm.Pilot.@@N@@.cyJ J n v y pt) := by
  have gv := H.gv
  have i1 := H.1
  have ht := H.gt
  have hvl : (v : Int) < J.2 72 40 := by omega
  obtain ⟨a1, a2, a3, a4, a5, a6, a7, a8, a9, a10, a11, a12, a13, a14, a15, a16⟩ := gv.2.2.2.1 v hvl
  obtain ⟨-, r2, -⟩ := gv.1.2.1 v hvl
  unfold _root_.Jvm.Pilot.@@N@@.cyJ
  have hsb : 1 ≤ min (cyV J.2 v y pt) 1000000000 ∧ min (cyV J.2 v y pt) 1000000000 ≤ 1000000000 := by omega
  generalize hs' : min (cyV J.2 v y pt) 1000000000 = s at hsb ⊢
  generalize htx : (J.2 (auA J v) 5).toNat = tx at a15 ⊢
  generalize hB : auS J 2 (J.2 98 v) s (y + 1) (J.2 72 2) tx (-1) = B
  have loB : ∀ a, a < J.1.1 → B.2 a = J.2 a := fun a q => by rw [← hB, (auS_hi q).2]
  generalize hZ : ((B.1, fun a => if 72 ≤ a ∧ a < 151 ∧ a ≠ 96 then adH n v (J.2 98 v) s (y + 1) (J.2 72 2) J.2 a else (wr (wr B 37 n (J.1.1 : Int)) 36 1 ((n : Int) + 1)).2 a) : AH) = Z
  have Z1 : Z.1 = B.1 := by rw [← hZ]
  have Zr : ∀ a, 72 ≤ a → a < 151 → a ≠ 96 → Z.2 a = adH n v (J.2 98 v) s (y + 1) (J.2 72 2) J.2 a := fun a q1 q2 q3 => by rw [← hZ]; exact if_pos ⟨q1, q2, q3⟩
  have Zx : ∀ a, ¬ (72 ≤ a ∧ a < 151 ∧ a ≠ 96) → Z.2 a = (wr (wr B 37 n (J.1.1 : Int)) 36 1 ((n : Int) + 1)).2 a := fun a q => by rw [← hZ]; exact if_neg q
  have Zc : ∀ a, a < 151 → a ≠ 36 → a ≠ 37 → a ≠ 72 → ¬ (78 ≤ a ∧ a ≤ 85) → ¬ (97 ≤ a ∧ a ≤ 104) → Z.2 a = J.2 a := fun a q1 q2 q3 q4 q5 q6 => by
    by_cases c : 72 ≤ a ∧ a < 151 ∧ a ≠ 96
    · rw [Zr a c.1 c.2.1 c.2.2]
      funext j
      exact adH_o q4 q5 q6 j
    · rw [Zx a c, wr_c q2, wr_c q3, loB a (by first | decide | omega)]
  have Z72 : ∀ j, Z.2 72 j = if j = 40 then (n : Int) + 1 else J.2 72 j := fun j => by rw [Zr 72 (by decide) (by decide) (by decide), adH_72]
  have Zau : ∀ a j, 97 ≤ a → a ≤ 104 → Z.2 a j = if j = n then (if a = 97 then 2 else if a = 98 then J.2 98 v else if a = 99 then s else if a = 100 then y + 1 else if a = 104 then J.2 72 2 else -1) else J.2 a j := fun a j q1 q2 => by rw [Zr a (by first | decide | omega) (by first | decide | omega) (by first | decide | omega), adH_au ⟨q1, q2⟩]
  have Zn : ∀ a, 97 ≤ a → a ≤ 104 → Z.2 a n = (if a = 97 then 2 else if a = 98 then J.2 98 v else if a = 99 then s else if a = 100 then y + 1 else if a = 104 then J.2 72 2 else -1) := fun a q1 q2 => by rw [Zau a n q1 q2, if_pos rfl]
  have z97 : Z.2 97 n = 2 := Zn 97 (by decide) (by decide)
  have z98 : Z.2 98 n = J.2 98 v := Zn 98 (by decide) (by decide)
  have z99 : Z.2 99 n = s := Zn 99 (by decide) (by decide)
  have z100 : Z.2 100 n = y + 1 := Zn 100 (by decide) (by decide)
  have z102 : Z.2 102 n = -1 := Zn 102 (by decide) (by decide)
  have z104 : Z.2 104 n = J.2 72 2 := Zn 104 (by decide) (by decide)
  have Zt : ∀ t x, RX (adH n v (J.2 98 v) s (y + 1) (J.2 72 2) J.2) t x → RX Z.2 t x := fun t x q => q.cells (fun a q1 q2 => Zr a (by first | decide | omega) (by first | decide | omega) (by first | decide | omega))
  refine H.newB (tx := tx) (k := 2) (hd := J.2 98 v) (s := s) (y := y + 1) (td := J.2 72 2) (bs := -1) hn hn80 ?_ (fun a q => ?_) Zc (fun k q => ?_) ?_ (fun k q => ?_) ?_ (fun j => ?_) (fun a j q1 q2 q3 => ?_) (fun t x q1 q2 => ?_) ?_ ?_ ?_ ?_ ?_ ?_ ?_ ?_ ?_ ?_
  · rw [hB, Z1]
  · rw [hB, Zx a (by first | decide | omega), wr_c (by first | decide | omega), wr_c (by first | decide | omega)]
  · rw [Zx 36 (by first | decide | omega), wr_f, if_neg q, wr_c (by decide), loB 36 (by first | decide | omega)]
  · rw [Zx 36 (by first | decide | omega), wr_f, if_pos rfl]
  · rw [Z72, if_neg q]
  · rw [Z72, if_pos rfl]
  · rw [Zx 37 (by first | decide | omega), wr_c (by decide), wr_f, loB 37 (by first | decide | omega)]
  · rw [Zau a j q1 q2, if_neg q3]
  · exact Zt t x (adH_tx q1 q2)
  · unfold nwR
    rw [z97, z98, z99, z100, z102, z104]
    exact ⟨by decide, r2, ⟨by omega, by omega⟩, ⟨by omega, by omega⟩, ht.2, fun z => absurd z (by decide), fun _ => rfl⟩
  · exact z97
  · exact z98
  · exact z99
  · exact z100
  · exact z104
  · rw [z97, if_neg (by decide)]
  · exact Zn 101 (by decide) (by decide)
  · exact Zn 103 (by decide) (by decide)
  · obtain ⟨x, x1, x2⟩ := a15
    refine ⟨x, Zt _ x (adH_new hv x1), ?_⟩
    rw [decide_eq_false (show ¬ 20 + v < 20 by omega)] at x2
    rw [decide_eq_false (show ¬ 20 + n < 20 by omega)]
    refine x2.fr ⟨by rw [Z1, ← hB]; show J.1.1 ≤ J.1.1 + 1 + 1; omega, fun a q1 q2 => ⟨by rw [Z1, ← hB, (auS_hi q2).1], by rw [Zx a (by first | decide | omega), wr_c (by first | decide | omega), wr_c (by first | decide | omega), loB a q2]⟩⟩
end
