/-! commit -/
noncomputable def cmO (h : Nat → Nat → Int) (v : Nat) (s lo hi : Int) : Prop := ∀ k : Int, lo ≤ k → k ≤ hi → ofY h v k = true ∧ ¬ lft h v k < s
section
variable {L : Nat} {xs : Nat → Int} {d : Nat} {S T U S' W : AH}
theorem cmO_end {h : Nat → Nat → Int} {v : Nat} {s lo hi : Int} (hl : hi < lo) : cmO h v s lo hi := fun k q1 q2 => by omega
theorem cmO_step {h : Nat → Nat → Int} {v : Nat} {s lo hi : Int} (hl : lo ≤ hi) : cmO h v s lo hi ↔ (ofY h v lo = true ∧ ¬ lft h v lo < s) ∧ cmO h v s (lo + 1) hi := by
  constructor
  · intro z
    exact ⟨z lo (by first | decide | omega) hl, fun k q1 q2 => z k (by first | decide | omega) q2⟩
  · intro z k q1 q2
    by_cases e : k = lo
    · rw [e]
      exact z.1
    · exact z.2 k (by first | decide | omega) q2
theorem x_cmL (H : Inv S) {v : Nat} (hv : (v : Int) < S.2 72 40) (s f : Int) {t : Int} (ht : t ≤ 9) [I : ∀ y, Decidable (cmO S.2 v s y t)] : ∀ (m : Nat) (y : Int), 0 ≤ y → y + m = t + 1 → LQ (WK L xs) (ev (WK L xs) (d + 5)) 23 68 [some (vr 15), some (vi (v : Int)), some (vi s), some (vi f), some (vi t), some (vr (auA S v)), some (vi y)] [] S = if cmO S.2 v s y t then bindR (ev (WK L xs) (d + 5) 175 [vr 36, vi (v : Int), vi s, vi f, vi t] S) (fun r1 S2 => some (r1, S2)) else some (-1, S) := by
  intro m
  induction m with
  | zero =>
    intro y h1 h2
    rw [q_23_68, if_pos (by first | decide | omega), if_pos (cmO_end (by first | decide | omega))]
  | succ m ih =>
    intro y h1 h2
    have hs := cmO_step (h := S.2) (v := v) (s := s) (lo := y) (hi := t) (by first | decide | omega)
    rw [q_23_68, if_neg (by first | decide | omega), x_isOf H.gv hv, bR]
    simp only [bi_0]
    by_cases c1 : ofY S.2 v y = true
    rotate_left
    · rw [if_pos c1, if_neg (fun z => c1 (hs.mp z).1.1)]
    rw [if_neg (fun z => z c1), x_leftOf H hv (by first | decide | omega), bR]
    simp only [lc_lt]
    by_cases c2 : lft S.2 v y < s
    · rw [if_pos c2, if_neg (fun z => (hs.mp z).1.2 c2)]
    rw [if_neg c2, w32e (by first | decide | omega) (by first | decide | omega), ih (y + 1) (by first | decide | omega) (by first | decide | omega)]
    by_cases c3 : cmO S.2 v s (y + 1) t
    · rw [if_pos c3, if_pos (hs.mpr ⟨⟨c1, c2⟩, c3⟩)]
    · rw [if_neg c3, if_neg (fun z => c3 (hs.mp z).2)]
theorem m_cmL (rk : RK S.2) (rv : RV S.2) (rp : RP S.2) {v : Nat} (hv : (v : Int) < S.2 72 40) (s f : Int) {t : Int} (ht : t ≤ 9) (hn : S.2 72 70 < 20) [I : ∀ y, Decidable (cmO S.2 v s y t)] : ∀ (m : Nat) (y : Int), 0 ≤ y → y + m = t + 1 → LQ (WK L xs) (ev (WK L xs) (d + 4)) 251 85 [some (vr 72), some (vi (v : Int)), some (vi s), some (vi f), some (vi t), some (vi y)] [] S = if cmO S.2 v s y t then some (S.2 72 70, wr (wr (wr (wr (wr S 124 (S.2 72 70).toNat (v : Int)) 125 (S.2 72 70).toNat s) 126 (S.2 72 70).toNat f) 127 (S.2 72 70).toNat t) 72 70 (S.2 72 70 + 1)) else some (-1, S) := by
  intro m
  have hn0 := rv.2.2.2.1
  have hq : 0 ≤ S.2 72 70 ∧ S.2 72 70 < 20 := ⟨hn0.1, hn⟩
  induction m with
  | zero =>
    intro y h1 h2
    rw [q_251_85, if_pos (by first | decide | omega), if_pos (cmO_end (by first | decide | omega)), if_pos hq, if_pos hq, if_pos hq, if_pos hq, wi hq.1 (by first | decide | omega), w32e (by first | decide | omega) (by first | decide | omega)]
  | succ m ih =>
    intro y h1 h2
    have hs := cmO_step (h := S.2) (v := v) (s := s) (lo := y) (hi := t) (by first | decide | omega)
    rw [q_251_85, if_neg (by first | decide | omega), m_isOf rv hv, bR]
    simp only [bi_0]
    by_cases c1 : ofY S.2 v y = true
    rotate_left
    · rw [if_pos c1, if_neg (fun z => c1 (hs.mp z).1.1)]
    rw [if_neg (fun z => z c1), m_leftOf rk rv rp hv, bR]
    simp only [lc_lt]
    by_cases c2 : lft S.2 v y < s
    · rw [if_pos c2, if_neg (fun z => (hs.mp z).1.2 c2)]
    rw [if_neg c2, w32e (by first | decide | omega) (by first | decide | omega), ih (y + 1) (by first | decide | omega) (by first | decide | omega)]
    by_cases c3 : cmO S.2 v s (y + 1) t
    · rw [if_pos c3, if_pos (hs.mpr ⟨⟨c1, c2⟩, c3⟩)]
    · rw [if_neg c3, if_neg (fun z => c3 (hs.mp z).2)]
theorem x_canBind (gv : GV S) {v : Nat} (hv : (v : Int) < S.2 72 40) : ev (WK L xs) (d + 1) 74 [vr (auA S v)] S = some (bi ((S.2 97 v ≠ 1 ∧ S.2 97 v ≠ 4) ∧ S.2 101 v = -1), S) := by
  obtain ⟨a1, a2, a3, a4, a5, a6, a7, a8, a9, a10, -⟩ := gv.2.2.2.1 v hv
  have h5 := a1.1
  have hr := (gv.1.2.1 v hv).1
  rw [q_74]
  simp only [k11 a1, rdvD h5, a3, a10]
  by_cases c : S.2 101 v = -1
  · rw [if_pos c]
    by_cases e0 : S.2 97 v = 0
    · rw [if_pos e0, bi_T (by first | decide | omega)]
    rw [if_neg e0]
    by_cases e2 : S.2 97 v = 2
    · rw [if_pos e2, bi_T (by first | decide | omega)]
    rw [if_neg e2]
    by_cases e3 : S.2 97 v = 3
    · rw [if_pos e3, bi_T (by first | decide | omega)]
    rw [if_neg e3, bi_F (by first | decide | omega)]
  · rw [if_neg c, bi_F (fun z => c z.2)]
    repeat' split
    all_goals rfl
/-- a new contract -/
theorem Inv.con1 (H : Inv S) {n : Nat} (hn : S.2 72 70 = n) (hn20 : n < 20) (hS : S'.1 = S.1) (hF : ∀ a, 151 ≤ a → S'.2 a = S.2 a) (hc : ∀ a, a < 151 → a ≠ 36 → a ≠ 72 → ¬ (38 ≤ a ∧ a ≤ 41) → ¬ (124 ≤ a ∧ a ≤ 127) → S'.2 a = S.2 a)
    (h36 : ∀ k, k ≠ 7 → S'.2 36 k = S.2 36 k) (h72 : ∀ k, k ≠ 70 → S'.2 72 k = S.2 72 k) (e36 : S'.2 36 7 = (n : Int) + 1) (e72 : S'.2 72 70 = (n : Int) + 1) (hj : ∀ a j, j ≠ n → (38 ≤ a ∧ a ≤ 41) ∨ (124 ≤ a ∧ a ≤ 127) → S'.2 a j = S.2 a j)
    (w1 : S'.2 38 n = S'.2 124 n) (w2 : S'.2 39 n = S'.2 125 n) (w3 : S'.2 40 n = S'.2 126 n) (w4 : S'.2 41 n = S'.2 127 n)
    (r1 : 0 ≤ S'.2 124 n ∧ S'.2 124 n < S.2 72 40 ∧ S.2 97 (S'.2 124 n).toNat ≠ 1 ∧ S.2 97 (S'.2 124 n).toNat ≠ 4) (r2 : 0 ≤ S'.2 125 n ∧ S'.2 125 n ≤ 1000000000) (r3 : 0 ≤ S'.2 126 n ∧ S'.2 126 n ≤ S'.2 127 n ∧ S'.2 127 n ≤ 9) : Inv S' := by
  obtain ⟨i1, gt, gc, gx, gb, gp, gl, gv, gk, gu, gw, gn⟩ := H
  have hFx : Fx (fun _ => False) S S' := ⟨by rw [hS]; exact Nat.le_refl _, fun a q1 q2 => ⟨by rw [hS], fun _ => hF a q1⟩⟩
  have hX : Xt (fun _ => False) S := fun a q => q.elim
  have C : ∀ a, a < 36 ∨ a = 37 ∨ (41 < a ∧ a < 72) ∨ (72 < a ∧ a < 124) ∨ (127 < a ∧ a < 151) → S'.2 a = S.2 a := fun a q => hc a (by first | decide | omega) (by first | decide | omega) (by first | decide | omega) (by first | decide | omega) (by first | decide | omega)
  have c15 := C 15 (by first | decide | omega)
  have hm : HM S.2 S'.2 := by
    unfold HM
    rw [h72 4 (by decide), h72 5 (by decide)]
    omega
  have hp : pby S'.2 = pby S.2 := pby_fr (C _ (by first | decide | omega)) (C _ (by first | decide | omega)) (C _ (by first | decide | omega)) (C _ (by first | decide | omega)) (C _ (by first | decide | omega)) (h72 _ (by decide))
  have hq : pct S'.2 = pct S.2 := pct_fr (C _ (by first | decide | omega)) (C _ (by first | decide | omega)) (C _ (by first | decide | omega)) (h72 _ (by decide))
  have hcb : cby S'.2 = cby S.2 := cby_fr (C _ (by first | decide | omega)) (C _ (by first | decide | omega)) (C _ (by first | decide | omega))
  refine ⟨by rw [hS]; exact i1, gt.fr (by rw [c15]) (h72 _ (by decide)), gc.fr (by rw [c15]) (h72 _ (by decide)), gx.fr (by rw [c15]) (h72 _ (by decide)), gb.fr (by rw [c15]) (h72 _ (by decide)) (C _ (by first | decide | omega)) (C _ (by first | decide | omega)), gp.fr (h72 _ (by decide)) (h72 _ (by decide)) (fun a q => C a (by first | decide | omega)), gl.fx hFx hX (fun a q => C a (by first | decide | omega)) (h72 _ (by decide)) (fun t x _ q => q.cells (fun a q1 q2 => C a (by first | decide | omega))), ?_, ?_, gu.fr (h72 _ (by decide)) (by rw [C 50 (by first | decide | omega)]) (by rw [C 50 (by first | decide | omega)]) (fun a q => C a (by first | decide | omega)), gw.fr (h72 _ (by decide)) (h72 _ (by decide)) (by rw [C 54 (by first | decide | omega)]) (by rw [C 54 (by first | decide | omega)]) (fun a q => C a (by first | decide | omega)), gn.fr (h72 _ (by decide)) (h72 _ (by decide)) (h72 _ (by decide)) (by rw [C 63 (by first | decide | omega)]) (by rw [C 63 (by first | decide | omega)]) (by rw [C 63 (by first | decide | omega)]) (fun a q => C a (by first | decide | omega))⟩
  · obtain ⟨h1, h2, h3, h4, h5, h6, h7⟩ := gv
    have hA : ∀ v : Nat, (v : Int) < S.2 72 40 → AV S' v ∧ auA S' v = auA S v ∧ spA S' v = spA S v := fun v hv => (h4 v hv).fx hFx hX (fun z => z) (fun z => z) (by rw [C 37 (by first | decide | omega)]) (fun a q1 q2 => by rw [C a (by first | decide | omega)]) (fun _ y _ => by rw [hp]) (fun x q => q.cells (fun a q1 q2 => C a (by first | decide | omega)))
    unfold GV
    rw [hq, h72 40 (by decide), h36 1 (by decide), e36, e72, C 42 (by first | decide | omega)]
    refine ⟨?_, h2, rfl, fun v hv => (hA v hv).1, fun v w hv hw q => ?_, fun k hk => ?_, h7⟩
    · obtain ⟨g1, g2, g3, g4, g5⟩ := h1
      rw [hn] at g5
      unfold RV
      rw [h72 40 (by decide), h72 4 (by decide), e72, C 97 (by first | decide | omega), C 98 (by first | decide | omega), C 99 (by first | decide | omega), C 100 (by first | decide | omega), C 102 (by first | decide | omega), C 104 (by first | decide | omega), C 105 (by first | decide | omega), C 106 (by first | decide | omega), C 107 (by first | decide | omega)]
      refine ⟨g1, g2, g3, by omega, fun k hk => ?_⟩
      by_cases e : k = n
      · subst e
        exact ⟨⟨r1.1, r1.2.1, r1.2.2⟩, r2, r3⟩
      · rw [hj 124 k e (by first | decide | omega), hj 125 k e (by first | decide | omega), hj 126 k e (by first | decide | omega), hj 127 k e (by first | decide | omega)]
        exact g5 k (by first | decide | omega)
    · obtain ⟨-, a1, a2⟩ := hA v hv
      obtain ⟨-, b1, b2⟩ := hA w hw
      rw [a1, a2, b1, b2] at q
      exact h5 v w hv hw q
    · by_cases e : k = n
      · subst e
        exact ⟨w1, w2, w3, w4⟩
      · rw [hj 124 k e (by first | decide | omega), hj 125 k e (by first | decide | omega), hj 126 k e (by first | decide | omega), hj 127 k e (by first | decide | omega), hj 38 k e (by first | decide | omega), hj 39 k e (by first | decide | omega), hj 40 k e (by first | decide | omega), hj 41 k e (by first | decide | omega)]
        exact h6 k (by first | decide | omega)
  · obtain ⟨h1, h2, h3, h4, h5, h6, h7, h8, h9, h10, h11⟩ := gk
    have gk0 : GK S := ⟨h1, h2, h3, h4, h5, h6, h7, h8, h9, h10, h11⟩
    have ecl : ∀ c, clA S' c = clA S c := fun c => by unfold clA; rw [C 44 (by first | decide | omega)]
    unfold GK nClaims
    rw [C 43 (by first | decide | omega), h72 52 (by decide), h72 53 (by decide), h72 102 (by decide), C 45 (by first | decide | omega), C 46 (by first | decide | omega), C 47 (by first | decide | omega), C 48 (by first | decide | omega), C 49 (by first | decide | omega), C 111 (by first | decide | omega), C 115 (by first | decide | omega), C 117 (by first | decide | omega), C 146 (by first | decide | omega), C 147 (by first | decide | omega), C 148 (by first | decide | omega), C 149 (by first | decide | omega)]
    refine ⟨?_, h2, h3, h4, fun c hc2 => ?_, fun c e q1 q2 q => ?_, h7, h8, h9, h10, h11⟩
    · obtain ⟨g1, g2, g3, g4, g5, g6⟩ := h1
      unfold RK
      rw [h72 52 (by decide), h72 53 (by decide), h72 102 (by decide), h72 4 (by decide), h72 5 (by decide), h72 40 (by decide), e72, C 97 (by first | decide | omega), C 108 (by first | decide | omega), C 109 (by first | decide | omega), C 110 (by first | decide | omega), C 111 (by first | decide | omega), C 112 (by first | decide | omega), C 113 (by first | decide | omega), C 114 (by first | decide | omega), C 115 (by first | decide | omega), C 116 (by first | decide | omega), C 117 (by first | decide | omega), C 118 (by first | decide | omega), C 119 (by first | decide | omega), C 120 (by first | decide | omega), C 121 (by first | decide | omega), C 122 (by first | decide | omega), C 123 (by first | decide | omega), C 147 (by first | decide | omega), C 148 (by first | decide | omega)]
      refine ⟨g1, g2, g3, fun c hc2 => ?_, g5, g6⟩
      obtain ⟨f1, f2, f3, f4, f5, f6⟩ := g4 c hc2
      exact ⟨f1, f2, f3, f4, ⟨f5.1, by omega⟩, f6⟩
    · exact (h5 c hc2).re hS (C _ (by first | decide | omega)) (hF _ (gk0.ob hc2).1) (fun a q1 q2 => by rw [C a (by first | decide | omega)]) (by rw [hcb])
    · rw [ecl, ecl] at q
      exact h6 c e q1 q2 q
theorem o_commit (H : Inv S) (p s f t : Int) : Ok L xs 23 251 [vi p, vi s, vi f, vi t] S := by
  have gv := H.gv
  have hnc := gv.1.2.2.2.1
  have ec : S.2 36 7 = S.2 72 70 := gv.2.2.1
  by_cases hp : 0 ≤ p ∧ p < S.2 72 40
  · obtain ⟨v, hv⟩ := Int.eq_ofNat_of_zero_le hp.1
    subst hv
    have a1 := gv.ob hp.2
    have h5 := a1.1
    have hn80 := gv.1.1
    have hqv : (0 : Int) ≤ (v : Int) ∧ (v : Int) < 80 := by omega
    have I : ∀ y, Decidable (cmO S.2 v s y t) := fun y => Classical.propDecidable _
    generalize hP : (((S.2 97 v ≠ 1 ∧ S.2 97 v ≠ 4) ∧ S.2 101 v = -1) ∧ S.2 72 70 < 20 ∧ (0 ≤ s ∧ s ≤ 1000000000) ∧ (0 ≤ f ∧ f ≤ t ∧ t ≤ 9) ∧ cmO S.2 v s f t) = P
    have instP : Decidable P := Classical.propDecidable _
    obtain ⟨n, hn⟩ := Int.eq_ofNat_of_zero_le hnc.1
    have X23 : ev (WK L xs) 200 23 [vr 15, vi (v : Int), vi s, vi f, vi t] S = if P then some (S.2 72 70, wr (wr (wr (wr (wr S 38 (S.2 72 70).toNat (v : Int)) 39 (S.2 72 70).toNat s) 40 (S.2 72 70).toNat f) 41 (S.2 72 70).toNat t) 36 7 (S.2 72 70 + 1)) else some (-1, S) := by
      subst hP
      rw [q_23, x_au gv hp.2, bR, Int.toNat_natCast, if_neg (by first | decide | omega), g14a a1]
      have kk1 : ∀ r : Rs, gd (Nat.beq (shp (WK L xs) S (auA S v)).1 11 && Nat.ble 0 8) r = r := fun r => by rw [shpD h5, a1.2.2]; rfl
      rw [kk1, x_canBind gv hp.2, bR]
      simp only [bi_0]
      by_cases c1 : (S.2 97 v ≠ 1 ∧ S.2 97 v ≠ 4) ∧ S.2 101 v = -1
      rotate_left
      · rw [if_pos c1, if_neg (fun z => c1 z.1)]
      rw [if_neg (fun z => z c1), q_173, ec]
      by_cases c2 : S.2 72 70 < 20
      rotate_left
      · rw [if_neg c2, bR, if_neg (by decide), if_neg (fun z => c2 z.2.1)]
      rw [if_pos c2, bR, if_pos rfl, x_isSum, bR]
      simp only [bi_0]
      by_cases c3 : 0 ≤ s ∧ s ≤ 1000000000
      rotate_left
      · rw [if_pos c3, if_neg (fun z => c3 z.2.2.1)]
      rw [if_neg (fun z => z c3), x_isYear, bR]
      simp only [bi_0]
      by_cases c4 : 0 ≤ f ∧ f < 10
      rotate_left
      · rw [if_pos c4, if_neg (fun z => c4 ⟨z.2.2.2.1.1, by have := z.2.2.2.1; omega⟩)]
      rw [if_neg (fun z => z c4), x_isYear, bR]
      simp only [bi_0]
      by_cases c5 : 0 ≤ t ∧ t < 10
      rotate_left
      · rw [if_pos c5, if_neg (fun z => c5 (by have := z.2.2.2.1; omega))]
      rw [if_neg (fun z => z c5)]
      by_cases c6 : t < f
      · rw [if_pos c6, if_neg (fun z => by have := z.2.2.2.1; omega)]
      rw [if_neg c6, x_cmL (d := 194) H hp.2 s f (t := t) (by first | decide | omega) (t + 1 - f).toNat f c4.1 (by first | decide | omega)]
      by_cases c7 : cmO S.2 v s f t
      rotate_left
      · rw [if_neg c7, if_neg (fun z => c7 z.2.2.2.2)]
      rw [if_pos c7, if_pos ⟨c1, c2, c3, by omega, c7⟩, q_175, q_173, ec, if_pos c2, bR, if_pos rfl, if_pos (by first | decide | omega), if_pos (by first | decide | omega), if_pos (by first | decide | omega), if_pos (by first | decide | omega), bR, ec, wi hnc.1 (by first | decide | omega), w32e (by first | decide | omega) (by first | decide | omega)]
    have M251 : ∀ W : AH, (∀ a, 72 ≤ a → a < 151 → W.2 a = S.2 a) → ev (WK L xs) 200 251 [vr 72, vi (v : Int), vi s, vi f, vi t] W = if P then some (S.2 72 70, wr (wr (wr (wr (wr W 124 (S.2 72 70).toNat (v : Int)) 125 (S.2 72 70).toNat s) 126 (S.2 72 70).toNat f) 127 (S.2 72 70).toNat t) 72 70 (S.2 72 70 + 1)) else some (-1, W) := by
      intro W hW
      obtain ⟨rk, rv, rp⟩ := H.ref (W := W) (fun a q1 q2 _ => hW a q1 q2)
      have w72 := hW 72 (by decide) (by decide)
      have hpW : (v : Int) < W.2 72 40 := by rw [w72]; exact hp.2
      have elf : lft W.2 = lft S.2 := lft_fr (fun a ha => hW a (by first | decide | omega) (by first | decide | omega)) (by rw [w72]) (by rw [w72])
      have eof : ofY W.2 = ofY S.2 := ofY_fr (hW _ (by decide) (by decide)) (hW _ (by decide) (by decide)) (hW _ (by decide) (by decide))
      have eok : ∀ y, cmO W.2 v s y t = cmO S.2 v s y t := fun y => by unfold cmO; rw [elf, eof]
      have I2 : ∀ y, Decidable (cmO W.2 v s y t) := fun y => Classical.propDecidable _
      subst hP
      rw [q_251, w72]
      by_cases c2 : S.2 72 70 < 20
      rotate_left
      · rw [if_pos (by first | decide | omega), if_neg (fun z => c2 z.2.1)]
      rw [if_neg (by first | decide | omega), m_isAu rv, bR]
      simp only [bi_0]
      rw [w72, if_neg (fun z => z hp), if_pos hqv, if_pos hqv, if_pos hqv, hW 97 (by decide) (by decide), hW 101 (by decide) (by decide), Int.toNat_natCast]
      by_cases c11 : S.2 97 v = 1
      · rw [if_pos c11, if_neg (fun z => z.1.1.1 c11)]
      rw [if_neg c11]
      by_cases c12 : S.2 97 v = 4
      · rw [if_pos c12, if_neg (fun z => z.1.1.2 c12)]
      rw [if_neg c12]
      by_cases c13 : S.2 101 v = -1
      rotate_left
      · rw [if_neg c13, if_neg (fun z => c13 z.1.2)]
      rw [if_pos c13, m_isSum, bR]
      simp only [bi_0]
      by_cases c3 : 0 ≤ s ∧ s ≤ 1000000000
      rotate_left
      · rw [if_pos c3, if_neg (fun z => c3 z.2.2.1)]
      rw [if_neg (fun z => z c3), m_lies, bR]
      simp only [bi_0]
      by_cases c4 : 0 ≤ f ∧ f ≤ 9
      rotate_left
      · rw [if_pos c4, if_neg (fun z => c4 (by have := z.2.2.2.1; omega))]
      rw [if_neg (fun z => z c4), m_lies, bR]
      simp only [bi_0]
      by_cases c5 : f ≤ t ∧ t ≤ 9
      rotate_left
      · rw [if_pos c5, if_neg (fun z => c5 (by have := z.2.2.2.1; omega))]
      rw [if_neg (fun z => z c5), m_cmL (d := 195) rk rv rp hpW s f (t := t) (by first | decide | omega) (by rw [w72]; exact c2) (t + 1 - f).toNat f c4.1 (by first | decide | omega), w72]
      by_cases c7 : cmO S.2 v s f t
      rotate_left
      · rw [if_neg (by rw [eok]; exact c7), if_neg (fun z => c7 z.2.2.2.2)]
      rw [if_pos (by rw [eok]; exact c7), if_pos ⟨⟨⟨c11, c12⟩, c13⟩, c2, c3, by omega, c7⟩]
    by_cases hPP : P
    · rw [if_pos hPP] at X23
      have m := M251 (wr (wr (wr (wr (wr S 38 (S.2 72 70).toNat (v : Int)) 39 (S.2 72 70).toNat s) 40 (S.2 72 70).toNat f) 41 (S.2 72 70).toNat t) 36 7 (S.2 72 70 + 1)) (fun a q1 q2 => by rw [wr_c (by first | decide | omega), wr_c (by first | decide | omega), wr_c (by first | decide | omega), wr_c (by first | decide | omega), wr_c (by first | decide | omega)])
      rw [if_pos hPP] at m
      refine ⟨_, _, _, X23, m, ?_, Gw.of rfl⟩
      rw [← hP] at hPP
      obtain ⟨c1, c2, c3, c4, c5⟩ := hPP
      have hn' := hn
      rw [hn, Int.toNat_natCast]
      refine H.con1 (n := n) hn' (by first | decide | omega) rfl (fun a q => ?_) (fun a q1 q2 q3 q4 q5 => ?_) (fun k q => ?_) (fun k q => ?_) ?_ ?_ (fun a j q1 q2 => ?_) ?_ ?_ ?_ ?_ ?_ ?_ ?_
      · repeat rw [wr_c (by first | decide | omega)]
      · repeat rw [wr_c (by first | decide | omega)]
      · simp [wr_2, q]
      · simp [wr_2, q]
      · simp [wr_2]
      · simp [wr_2]
      · simp [wr_2, q1]
        omega
      · simp [wr_2]
      · simp [wr_2]
      · simp [wr_2]
      · simp [wr_2]
      · simp only [wr_2]
        simp
        exact ⟨by omega, c1.1⟩
      · simp [wr_2]
        omega
      · simp [wr_2]
        omega
    · rw [if_neg hPP] at X23
      have m := M251 S (fun _ _ _ => rfl)
      rw [if_neg hPP] at m
      exact ⟨_, S, S, X23, m, H, Gw.rf⟩
  · refine Ok.same (r := -1) H ?_ ?_
    · rw [q_23, x_au0 gv hp, bR, if_pos (by decide)]
    · rw [q_251]
      by_cases c2 : S.2 72 70 = 20
      · rw [if_pos c2]
      rw [if_neg c2, m_isAu gv.1, bR]
      simp only [bi_0]
      rw [if_pos hp]
end
