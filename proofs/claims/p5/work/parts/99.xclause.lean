/-! the class reads a clause as the descent does -/
noncomputable def Xf (S T : AH) : Prop := T.1 = S.1 ∧ (∀ a, a ≠ 22 → a ≠ 23 → a ≠ 24 → T.2 a = S.2 a) ∧ ∀ k, ¬ (4 ≤ k ∧ k ≤ 9 ∧ k ≠ 5) → k ≠ 2 → T.2 22 k = S.2 22 k
/-- a fault is told -/
noncomputable def FT (T : AH) (e : Int) : Prop := T.2 22 6 = -1 ∧ ∃ (f : Int) (q : Nat), T.2 22 7 = f ∧ T.2 22 8 = q ∧ 1 ≤ f ∧ f ≤ 6 ∧ q ≤ 300 ∧ e = flt f q
section
variable {L : Nat} {xs : Nat → Int} {d : Nat} {S S' T U W : AH} {t : TB} {n p : Nat} {le : Int → Int} {ud : Int → Bool} {live bl : Bool}
theorem Cf.xf (h : Cf S T) : Xf S T := ⟨h.1, fun a q1 _ _ => h.2.1 a q1, fun k q1 _ => h.2.2 k q1⟩
theorem Xf.tr (h : Xf S T) (k : Xf T U) : Xf S U := ⟨k.1.trans h.1, fun a q1 q2 q3 => (k.2.1 a q1 q2 q3).trans (h.2.1 a q1 q2 q3), fun j q1 q2 => (k.2.2 j q1 q2).trans (h.2.2 j q1 q2)⟩
theorem Xf.wA {a k : Nat} {v : Int} (h : a = 23 ∨ a = 24) : Xf S (wr S a k v) := ⟨rfl, fun b q1 q2 q3 => wr_c (by first | decide | omega), fun j _ _ => by rw [wr_c (by first | decide | omega)]⟩
theorem Xf.w2 {v : Int} : Xf S (wr S 22 2 v) := ⟨rfl, fun b q1 _ _ => wr_c q1, fun j _ q => by rw [wr_f, if_neg q]⟩
theorem RB.xf (h : RB L xs t n S) (hf : Xf S T) : RB L xs t n T := by
  obtain ⟨h1, h2, h3, b, len, h4, h5, h6, h7, h8, h9, h10⟩ := h
  refine ⟨h1, h2, by rw [hf.2.2 5 (by first | decide | omega) (by decide), h3], b, len, by rw [hf.2.2 3 (by first | decide | omega) (by decide), h4], h5, h6, h7, by rw [shp_fr hf.1, h8], h9, fun k hk => ?_⟩
  rw [rdv_fr (hf.2.1 b h5 h6 h7)]
  exact h10 k hk
theorem FA.xf (h : FA S le ud) (hf : Xf S T) : FA T le ud := by
  unfold FA
  rw [hf.2.1 26 (by decide) (by decide) (by decide), hf.2.2 11 (by first | decide | omega) (by decide)]
  exact h
theorem GS.xf (H : GS L xs t n le ud S p) (hf : Xf S T) (h : ∀ k, k = 4 ∨ k = 6 ∨ k = 7 ∨ k = 9 → T.2 22 k = S.2 22 k) : GS L xs t n le ud T p := by
  obtain ⟨h1, h2, h3, h4, h5, h6, h7⟩ := H
  refine ⟨h1.xf hf, h2.xf hf, ?_, ?_, ?_, ?_, h7⟩
  · rw [h 4 (by first | decide | omega), h3]
  · rw [h 6 (by first | decide | omega), h4]
  · rw [h 7 (by first | decide | omega), h5]
  · rw [h 9 (by first | decide | omega), h6]
theorem FS.ft {e : Int} (h : FS S T e) : FT T e := h.2
theorem x_ruleD (D : Dead S) (c : Int) : ∃ v, ev (WK L xs) (d + 13) 146 [vr 22, vi c] S = some (v, S) := by
  obtain ⟨v, hv⟩ := xrdCD (L := L) (xs := xs) (d := d) D 0
  refine ⟨0, ?_⟩
  rw [q_146, x_expectD D (by decide), bR, hv, bR, x_expectD D (by decide), bR]
  by_cases q : c = 115
  · rw [if_pos q, x_digD D, bR, if_pos rfl, q_146_45, if_pos rfl, x_failD D, bR]
  · rw [if_neg q]
/-- a rule behind its letter -/
theorem x_readRule (H : GS L xs t n le ud S p) (c : Int) : (cu t n p ≠ 40 → ∃ v T, ev (WK L xs) (d + 70) 146 [vr 22, vi c] S = some (v, T) ∧ FS S T (flt 1 p)) ∧ (cu t n p = 40 → match rdC t n (p + 1) with
    | .inl e => ∃ v T, ev (WK L xs) (d + 70) 146 [vr 22, vi c] S = some (v, T) ∧ FS S T e
    | .inr (q, _) => (cu t n q ≠ 41 → ∃ v T, ev (WK L xs) (d + 70) 146 [vr 22, vi c] S = some (v, T) ∧ FS S T (flt 1 q)) ∧ (cu t n q = 41 → (c ≠ 115 → ∃ T, ev (WK L xs) (d + 70) 146 [vr 22, vi c] S = some (0, T) ∧ GS L xs t n le ud T (q + 1) ∧ Cf S T) ∧ (c = 115 → (49 ≤ cu t n (q + 1) ∧ cu t n (q + 1) ≤ 57 → ∃ T, ev (WK L xs) (d + 70) 146 [vr 22, vi c] S = some (cu t n (q + 1) - 48, T) ∧ GS L xs t n le ud T (q + 2) ∧ Cf S T) ∧ (¬ (49 ≤ cu t n (q + 1) ∧ cu t n (q + 1) ≤ 57) → ∃ v T, ev (WK L xs) (d + 70) 146 [vr 22, vi c] S = some (v, T) ∧ FS S T (flt 1 (q + 1)))))) := by
  have h200 := H.1.1
  obtain ⟨e1, e2⟩ := x_expect (L := L) (xs := xs) (d := d + 67) H (c := 40) (by decide)
  have tailD : ∀ {U : AH} (r : Int), Dead U → ∃ v, bindR (ev (WK L xs) (d + 69) 145 [vr 22, vi 41] U) (fun r5 S6 => (if c = (115 : Int) then (bindR (ev (WK L xs) (d + 69) 144 [vr 22] S6) (fun r7 S8 => (if r7 = 0 then (LQ (WK L xs) (ev (WK L xs) (d + 69)) 146 45 [some (vr 22), none, none] [vi (0 : Int)] S8) else (LQ (WK L xs) (ev (WK L xs) (d + 69)) 146 45 [some (vr 22), none, none] [vi (w32 ((S8.2 22 6) - (48 : Int)))] S8)))) else (some ((0 : Int), S6)))) = some (v, U) := by
    intro U r D
    refine ⟨0, ?_⟩
    rw [x_expectD D (by decide), bR]
    by_cases q : c = 115
    · rw [if_pos q, x_digD D, bR, if_pos rfl, q_146_45, if_pos rfl, x_failD D, bR]
    · rw [if_neg q]
  refine ⟨fun q => ?_, fun q => ?_⟩
  · obtain ⟨T, t1, t2⟩ := e2 q
    obtain ⟨v, hv⟩ := xrdCD (L := L) (xs := xs) (d := d + 57) t2.dead 0
    obtain ⟨w, hw⟩ := tailD 0 t2.dead
    exact ⟨w, T, by rw [q_146, t1, bR, hv, bR]; exact hw, t2⟩
  · obtain ⟨T, t1, t2, t3⟩ := e1 q
    have go : ev (WK L xs) (d + 70) 146 [vr 22, vi c] S = bindR (ev (WK L xs) (d + 69) 147 [vr 22, vi 1, vi (lv false)] T) (fun r3 S4 => (bindR (ev (WK L xs) (d + 69) 145 [vr 22, vi 41] S4) (fun r5 S6 => (if c = (115 : Int) then (bindR (ev (WK L xs) (d + 69) 144 [vr 22] S6) (fun r7 S8 => (if r7 = 0 then (LQ (WK L xs) (ev (WK L xs) (d + 69)) 146 45 [some (vr 22), none, none] [vi (0 : Int)] S8) else (LQ (WK L xs) (ev (WK L xs) (d + 69)) 146 45 [some (vr 22), none, none] [vi (w32 ((S8.2 22 6) - (48 : Int)))] S8)))) else (some ((0 : Int), S6)))))) := by
      rw [q_146, t1, bR]
      rfl
    have hC := xrdC (L := L) (xs := xs) (d := d) (live := false) t2
    revert hC
    cases hr : rdC t n (p + 1) with
    | inl e =>
      intro hC
      obtain ⟨v, U, u1, u2, u3⟩ := hC rfl
      obtain ⟨w, hw⟩ := tailD 0 u3.dead
      exact ⟨w, U, by rw [go, u1, bR]; exact hw, u3.of t3⟩
    | inr x =>
      obtain ⟨r, g⟩ := x
      rintro ⟨v, U, u1, u2, ⟨uG, uC, -⟩ | ⟨ul, -⟩⟩
      rotate_left
      · exact absurd ul (by decide)
      rw [u1, bR] at go
      obtain ⟨f1, f2⟩ := x_expect (L := L) (xs := xs) (d := d + 67) uG (c := 41) (by decide)
      have hrn := uG.2.2.2.2.2.2
      refine ⟨fun q2 => ?_, fun q2 => ⟨fun q3 => ?_, fun q3 => ?_⟩⟩
      · obtain ⟨V, v1, v2⟩ := f2 q2
        rw [v1, bR] at go
        refine ⟨0, V, ?_, v2.of (t3.tr uC)⟩
        rw [go]
        by_cases q4 : c = 115
        · rw [if_pos q4, x_digD v2.dead, bR, if_pos rfl, q_146_45, if_pos rfl, x_failD v2.dead, bR]
        · rw [if_neg q4]
      · obtain ⟨V, v1, v2, v3⟩ := f1 q2
        rw [v1, bR, if_neg q3] at go
        exact ⟨V, go, v2, (t3.tr uC).tr v3⟩
      · obtain ⟨V, v1, v2, v3⟩ := f1 q2
        have hvn := v2.2.2.2.2.2.2
        rw [v1, bR, if_pos q3, x_dig v2.2.2.2.1, bR, sgn_dg] at go
        simp only [bi_0] at go
        obtain ⟨F, g1, g2⟩ := x_fail (L := L) (xs := xs) (d := d + 68) v2 (f := 1) (by decide) (q := r + 1) (by first | decide | omega)
        refine ⟨fun q4 => ?_, fun q4 => ?_⟩
        · have hd : dgt (cu t n (r + 1)) = true := decide_eq_true (by first | decide | omega)
          have hlt := cu_pos (t := t) (n := n) (p := r + 1) (by first | decide | omega)
          obtain ⟨X, y1, y2, y3⟩ := x_step (L := L) (xs := xs) (d := d + 68) v2 hlt
          rw [if_neg (fun z => z hd), v2.2.2.2.1, cu_sgn hlt, w32e (x := cu t n (r + 1) - 48) (by first | decide | omega) (by first | decide | omega), q_146_45, if_neg (by first | decide | omega), y1, bR] at go
          exact ⟨X, go, y2, ((t3.tr uC).tr v3).tr y3⟩
        · by_cases hd : dgt (cu t n (r + 1)) = true
          · have hb := dgt_b hd
            have hlt := cu_pos (t := t) (n := n) (p := r + 1) (by first | decide | omega)
            rw [if_neg (fun z => z hd), v2.2.2.2.1, cu_sgn hlt, w32e (x := cu t n (r + 1) - 48) (by first | decide | omega) (by first | decide | omega), q_146_45, if_pos (by first | decide | omega), v2.2.2.1, g1, bR] at go
            exact ⟨_, F, go, g2.of ((t3.tr uC).tr v3)⟩
          · rw [if_pos hd, q_146_45, if_pos rfl, v2.2.2.1, g1, bR] at go
            exact ⟨_, F, go, g2.of ((t3.tr uC).tr v3)⟩
/-- what a clause leaves in the class -/
noncomputable def XOk (L : Nat) (xs : Nat → Int) (t : TB) (n : Nat) (le : Int → Int) (ud : Int → Bool) (X : Rs) (S : AH) (p m : Nat) (r : Int ⊕ (Nat × CL)) : Prop := match r with
  | .inl e => ∃ T, X = some (0, T) ∧ Xf S T ∧ FT T e
  | .inr (q, c) => ∃ T, X = some (0, T) ∧ Xf S T ∧ GS L xs t n le ud T q ∧ T.2 22 2 = (m : Int) + 1 ∧ (∀ a j, a = 23 ∨ a = 24 → j < m → T.2 a j = S.2 a j) ∧ T.2 23 m = p ∧ T.2 24 m = vlu c
theorem x_clause (H : GS L xs t n le ud S p) {m : Nat} (hm : m ≤ 16) (h2 : S.2 22 2 = m) {law : Bool} : XOk L xs t n le ud (ev (WK L xs) (d + 72) 138 [vr 22, vi (lv law)] S) S p m (rdK t n law m p) := by
  have h200 := H.1.1
  have hn := H.2.2.2.2.2.2
  have hb := sgn_b (n := n) (p := p) H.1.2.1
  have failK : ∀ (f : Int), 1 ≤ f ∧ f ≤ 6 → ∃ T, bindR (ev (WK L xs) (d + 71) 141 [vr 22, vi f, vi (S.2 22 4)] S) (fun r9 S10 => (some ((0 : Int), S10))) = some (0, T) ∧ Xf S T ∧ FT T (flt f p) := by
    intro f hf
    obtain ⟨T, t1, t2⟩ := x_fail (L := L) (xs := xs) (d := d + 70) H hf (q := p) (by first | decide | omega)
    exact ⟨T, by rw [H.2.2.1, t1, bR], t2.1.xf, t2.2⟩
  unfold rdK
  by_cases c1 : isWd (cu t n p) = false ∧ isLw (cu t n p) = false
  · rw [if_pos c1]
    obtain ⟨T, k1, k2⟩ := failK 1 (by decide)
    refine ⟨T, ?_, k2⟩
    rw [q_138, x_next5 H.2.2.2.1 hb, sgn_lw, bR, bi_F (nt c1.2), if_pos rfl, H.2.2.2.1, x_rule, sgn_wd, bR, bi_F (nt c1.1), if_pos rfl]
    exact k1
  rw [if_neg c1]
  by_cases c2 : law = false ∧ isLw (cu t n p) = true
  · rw [if_pos c2]
    obtain ⟨T, k1, k2⟩ := failK 6 (by decide)
    refine ⟨T, ?_, k2⟩
    rw [q_138, x_next5 H.2.2.2.1 hb, sgn_lw, bR, bi_T c2.2, if_neg (by decide), if_neg (by decide), c2.1, if_pos (show lv false = 0 from rfl)]
    exact k1
  rw [if_neg c2]
  have to54 : ev (WK L xs) (d + 72) 138 [vr 22, vi (lv law)] S = LQ (WK L xs) (ev (WK L xs) (d + 71)) 138 54 [some (vr 22), none, some (vi (bi (isLw (cu t n p) = true))), none] [] S := by
    rw [q_138, x_next5 H.2.2.2.1 hb, sgn_lw, bR]
    by_cases c3 : isLw (cu t n p) = true
    · have c4 : law = true := by
        by_cases c4 : law = true
        · exact c4
        · exact absurd ⟨nf c4, c3⟩ c2
      rw [bi_T c3, if_neg (by decide), if_neg (by decide), c4, if_neg (show ¬ lv true = 0 by decide)]
    · have c4 : isWd (cu t n p) = true := by
        by_cases c4 : isWd (cu t n p) = true
        · exact c4
        · exact absurd ⟨nf c4, nf c3⟩ c1
      rw [bi_F c3, if_pos rfl, H.2.2.2.1, x_rule, sgn_wd, bR, bi_T c4, if_neg (by decide), if_pos rfl]
  by_cases c3 : m = 16
  · rw [if_pos c3]
    obtain ⟨T, k1, k2⟩ := failK 4 (by decide)
    refine ⟨T, ?_, k2⟩
    rw [to54, q_138_54, h2, if_neg (by first | decide | omega)]
    exact k1
  rw [if_neg c3]
  have hne : cu t n p ≠ 0 := fun e => c1 (by rw [e]; decide)
  have hlt := cu_pos hne
  have hq : (0 : Int) ≤ (m : Int) ∧ (m : Int) < 16 := by omega
  have x23 : Xf S (wr S 23 m (p : Int)) := Xf.wA (by first | decide | omega)
  have H1 : GS L xs t n le ud (wr S 23 m (p : Int)) p := H.xf x23 (fun k _ => by rw [wr_c (by decide)])
  obtain ⟨T, t1, t2, t3⟩ := x_step (L := L) (xs := xs) (d := d + 70) H1 hlt
  have T2 : T.2 22 2 = m := by rw [t3.2.2 2 (by first | decide | omega), wr_c (by decide), h2]
  have T23 : T.2 23 = (wr S 23 m (p : Int)).2 23 := t3.2.1 23 (by decide)
  have T24 : T.2 24 = S.2 24 := by rw [t3.2.1 24 (by decide), wr_c (by decide)]
  have xT : Xf S T := x23.tr t3.xf
  have go : ev (WK L xs) (d + 72) 138 [vr 22, vi (lv law)] S = (if ¬ isLw (cu t n p) = true then bindR (ev (WK L xs) (d + 71) 146 [vr 22, vi (cu t n p)] T) (fun r3 S4 => some ((0 : Int), wr (wr S4 24 m r3) 22 2 (w32 ((S4.2 22 2) + (1 : Int))))) else bindR (ev (WK L xs) (d + 71) 142 [vr 22, vi (cu t n p)] T) (fun r3 S4 => some ((0 : Int), wr (wr S4 24 m r3) 22 2 (w32 ((S4.2 22 2) + (1 : Int)))))) := by
    rw [to54, q_138_54, h2, if_pos (by first | decide | omega), if_pos hq, Int.toNat_natCast, H.2.2.1, t1, bR, H.2.2.2.1, cu_sgn hlt, T2]
    simp only [bi_0, if_pos hq, Int.toNat_natCast]
  -- the ends
  have endB : ∀ {U : AH} {v e : Int} {Y : Rs}, FS T U e → Y = some (v, U) → bindR Y (fun r3 S4 => some ((0 : Int), wr (wr S4 24 m r3) 22 2 (w32 ((S4.2 22 2) + (1 : Int))))) = some (0, wr (wr U 24 m v) 22 2 (w32 (U.2 22 2 + 1))) ∧ Xf S (wr (wr U 24 m v) 22 2 (w32 (U.2 22 2 + 1))) ∧ FT (wr (wr U 24 m v) 22 2 (w32 (U.2 22 2 + 1))) e := by
    intro U v e Y hF hY
    refine ⟨by rw [hY, bR], ((xT.tr hF.1.xf).tr (Xf.wA (by first | decide | omega))).tr Xf.w2, ?_⟩
    obtain ⟨g1, f, q, g2, g3, g4⟩ := hF.2
    refine ⟨by rw [wr_f, if_neg (by decide), wr_c (by decide), g1], f, q, by rw [wr_f, if_neg (by decide), wr_c (by decide), g2], by rw [wr_f, if_neg (by decide), wr_c (by decide), g3], g4⟩
  have endG : ∀ {U : AH} {v : Int} {q : Nat} {Y : Rs}, GS L xs t n le ud U q → Cf T U → Y = some (v, U) → bindR Y (fun r3 S4 => some ((0 : Int), wr (wr S4 24 m r3) 22 2 (w32 ((S4.2 22 2) + (1 : Int))))) = some (0, wr (wr U 24 m v) 22 2 (w32 (U.2 22 2 + 1))) ∧ Xf S (wr (wr U 24 m v) 22 2 (w32 (U.2 22 2 + 1))) ∧ GS L xs t n le ud (wr (wr U 24 m v) 22 2 (w32 (U.2 22 2 + 1))) q ∧ (wr (wr U 24 m v) 22 2 (w32 (U.2 22 2 + 1))).2 22 2 = (m : Int) + 1 ∧ (∀ a j, a = 23 ∨ a = 24 → j < m → (wr (wr U 24 m v) 22 2 (w32 (U.2 22 2 + 1))).2 a j = S.2 a j) ∧ (wr (wr U 24 m v) 22 2 (w32 (U.2 22 2 + 1))).2 23 m = p ∧ (wr (wr U 24 m v) 22 2 (w32 (U.2 22 2 + 1))).2 24 m = v := by
    intro U v q Y hG hC hY
    have xU : Xf U (wr (wr U 24 m v) 22 2 (w32 (U.2 22 2 + 1))) := (Xf.wA (by first | decide | omega)).tr Xf.w2
    refine ⟨by rw [hY, bR], (xT.tr hC.xf).tr xU, hG.xf xU (fun k hk => by rw [wr_f, if_neg (by first | decide | omega), wr_c (by decide)]), ?_, fun a j ha hj => ?_, ?_, ?_⟩
    · rw [wr_f, if_pos rfl, hC.2.2 2 (by first | decide | omega), T2, w32e (by first | decide | omega) (by first | decide | omega)]
    · rcases ha with rfl | rfl
      · rw [wr_c (by decide), wr_c (by decide), hC.2.1 23 (by decide), T23, wr_f, if_neg (by first | decide | omega)]
      · rw [wr_c (by decide), wr_f, if_neg (by first | decide | omega), hC.2.1 24 (by decide), T24]
    · rw [wr_c (by decide), wr_c (by decide), hC.2.1 23 (by decide), T23, wr_f, if_pos rfl]
    · rw [wr_c (by decide), wr_f, if_pos rfl]
  by_cases c4 : isWd (cu t n p) = true
  · rw [if_pos c4]
    have hlw : ¬ isLw (cu t n p) = true := fun z => by
      have a := of_decide_eq_true c4
      have b := of_decide_eq_true z
      omega
    rw [if_pos hlw] at go
    obtain ⟨R1, R2⟩ := x_readRule (L := L) (xs := xs) (d := d + 1) t2 (cu t n p)
    by_cases c5 : cu t n (p + 1) = 40
    rotate_left
    · rw [if_neg c5]
      obtain ⟨v, U, u1, u2⟩ := R1 c5
      obtain ⟨z1, z2⟩ := endB u2 u1
      exact ⟨_, go.trans z1, z2⟩
    rw [if_pos c5]
    have hR := R2 c5
    revert hR
    rw [show p + 1 + 1 = p + 2 from rfl]
    cases hr : rdC t n (p + 2) with
    | inl e =>
      rintro ⟨v, U, u1, u2⟩
      obtain ⟨z1, z2⟩ := endB u2 u1
      exact ⟨_, go.trans z1, z2⟩
    | inr x =>
      obtain ⟨q, g⟩ := x
      rintro ⟨D1, D2⟩
      show XOk L xs t n le ud _ S p m (if cu t n q = 41 then (if cu t n p = 115 then (if 49 ≤ cu t n (q + 1) ∧ cu t n (q + 1) ≤ 57 then .inr (q + 2, (115, cu t n (q + 1) - 48, 0, g)) else .inl (flt 1 (q + 1))) else .inr (q + 1, (cu t n p, 0, 0, g))) else .inl (flt 1 q))
      by_cases c6 : cu t n q = 41
      rotate_left
      · rw [if_neg c6]
        obtain ⟨v, U, u1, u2⟩ := D1 c6
        obtain ⟨z1, z2⟩ := endB u2 u1
        exact ⟨_, go.trans z1, z2⟩
      rw [if_pos c6]
      obtain ⟨E1, E2⟩ := D2 c6
      by_cases c7 : cu t n p = 115
      rotate_left
      · rw [if_neg c7]
        obtain ⟨U, u1, u2, u3⟩ := E1 c7
        obtain ⟨z1, z2, z3, z4, z5, z6, z7⟩ := endG u2 u3 u1
        refine ⟨_, go.trans z1, z2, z3, z4, z5, z6, ?_⟩
        rw [z7]
        have a := of_decide_eq_true c4
        show (0 : Int) = if cu t n p = 120 then _ else (0 : Int)
        rw [if_neg (by first | decide | omega)]
      rw [if_pos c7]
      obtain ⟨G1, G2⟩ := E2 c7
      by_cases c8 : 49 ≤ cu t n (q + 1) ∧ cu t n (q + 1) ≤ 57
      · rw [if_pos c8]
        obtain ⟨U, u1, u2, u3⟩ := G1 c8
        obtain ⟨z1, z2, z3, z4, z5, z6, z7⟩ := endG u2 u3 u1
        refine ⟨_, go.trans z1, z2, z3, z4, z5, z6, ?_⟩
        rw [z7]
        rfl
      · rw [if_neg c8]
        obtain ⟨v, U, u1, u2⟩ := G2 c8
        obtain ⟨z1, z2⟩ := endB u2 u1
        exact ⟨_, go.trans z1, z2⟩
  · rw [if_neg c4]
    have hlw : isLw (cu t n p) = true := by
      by_cases z : isLw (cu t n p) = true
      · exact z
      · exact absurd ⟨nf c4, nf z⟩ c1
    rw [if_neg (fun z => z hlw), q_142] at go
    have nd : ∀ Y : Rs, bindR Y (fun r1 S2 => some (r1, S2)) = Y := fun Y => by rcases Y with _ | ⟨a, b⟩ <;> rfl
    simp only [nd] at go
    by_cases c5 : cu t n p = 120
    · rw [if_pos c5]
      rw [if_pos c5] at go
      have hr := x_num (L := L) (xs := xs) (d := d + 68) 19 t2
      revert hr
      cases hN : rdN t n 19 (p + 1) with
      | inl e =>
        rintro ⟨w, U, u1, u2⟩
        obtain ⟨z1, z2⟩ := endB (v := w32 (w32 (w * 16) + 0)) u2 rfl
        refine ⟨_, go.trans (Eq.trans ?_ z1), z2⟩
        rw [show ev (WK L xs) (d + 70) 143 [vr 22, vi 19] T = some (w, U) from u1, bR, x_expectD u2.dead (by decide), bR, x_numD u2.dead, bR]
      | inr x =>
        obtain ⟨q, v⟩ := x
        rintro ⟨U, u1, u2, u3⟩
        have hv := rdN_v hN
        have hqn := u2.2.2.2.2.2.2
        rw [show ev (WK L xs) (d + 70) 143 [vr 22, vi 19] T = some (v, U) from u1, bR] at go
        obtain ⟨e1, e2⟩ := x_expect (L := L) (xs := xs) (d := d + 68) u2 (c := 46) (by decide)
        show XOk L xs t n le ud _ S p m (if cu t n q = 46 then (match rdN t n 15 (q + 1) with
          | .inl e => .inl e
          | .inr (r, u) => .inr (r, (120, v, u, []))) else .inl (flt 1 q))
        by_cases c6 : cu t n q = 46
        rotate_left
        · rw [if_neg c6]
          obtain ⟨V, v1, v2⟩ := e2 c6
          obtain ⟨z1, z2⟩ := endB (v := w32 (w32 (v * 16) + 0)) (v2.of u3) rfl
          refine ⟨_, go.trans (Eq.trans ?_ z1), z2⟩
          rw [show ev (WK L xs) (d + 70) 145 [vr 22, vi 46] U = some (0, V) from v1, bR, x_numD v2.dead, bR]
        rw [if_pos c6]
        obtain ⟨V, v1, v2, v3⟩ := e1 c6
        rw [show ev (WK L xs) (d + 70) 145 [vr 22, vi 46] U = some (0, V) from v1, bR] at go
        have hr2 := x_num (L := L) (xs := xs) (d := d + 68) 15 v2
        revert hr2
        cases hN2 : rdN t n 15 (q + 1) with
        | inl e =>
          rintro ⟨w, X, y1, y2⟩
          obtain ⟨z1, z2⟩ := endB (v := w32 (w32 (v * 16) + w)) (y2.of (u3.tr v3)) rfl
          refine ⟨_, go.trans (Eq.trans ?_ z1), z2⟩
          rw [show ev (WK L xs) (d + 70) 143 [vr 22, vi 15] V = some (w, X) from y1, bR]
        | inr y =>
          obtain ⟨r, u⟩ := y
          rintro ⟨X, y1, y2, y3⟩
          have hu := rdN_v hN2
          obtain ⟨z1, z2, z3, z4, z5, z6, z7⟩ := endG (v := w32 (w32 (v * 16) + u)) y2 ((u3.tr v3).tr y3) rfl
          refine ⟨_, go.trans (Eq.trans ?_ z1), z2, z3, z4, z5, z6, ?_⟩
          · rw [show ev (WK L xs) (d + 70) 143 [vr 22, vi 15] V = some (u, X) from y1, bR]
          · rw [z7, w32e (x := v * 16) (by first | decide | omega) (by first | decide | omega), w32e (by first | decide | omega) (by first | decide | omega)]
            rfl
    · rw [if_neg c5]
      rw [if_neg c5] at go
      generalize hmost : (if cu t n p = 109 ∨ cu t n p = 99 then (100 : Int) else 999999) = most
      have go2 : ev (WK L xs) (d + 72) 138 [vr 22, vi (lv law)] S = bindR (ev (WK L xs) (d + 70) 143 [vr 22, vi most] T) (fun r3 S4 => some ((0 : Int), wr (wr S4 24 m r3) 22 2 (w32 ((S4.2 22 2) + (1 : Int))))) := by
        rw [go, ← hmost]
        by_cases c6 : cu t n p = 109
        · rw [if_pos c6, if_pos (Or.inl c6)]
        · rw [if_neg c6]
          by_cases c7 : cu t n p = 99
          · rw [if_pos c7, if_pos (Or.inr c7)]
          · rw [if_neg c7, if_neg (by first | decide | omega)]
      have hr := x_num (L := L) (xs := xs) (d := d + 68) most t2
      revert hr
      cases hN : rdN t n most (p + 1) with
      | inl e =>
        rintro ⟨w, U, u1, u2⟩
        obtain ⟨z1, z2⟩ := endB u2 u1
        exact ⟨_, go2.trans z1, z2⟩
      | inr x =>
        obtain ⟨q, v⟩ := x
        rintro ⟨U, u1, u2, u3⟩
        obtain ⟨z1, z2, z3, z4, z5, z6, z7⟩ := endG u2 u3 u1
        refine ⟨_, go2.trans z1, z2, z3, z4, z5, z6, ?_⟩
        rw [z7]
        show v = if cu t n p = 120 then _ else v
        rw [if_neg c5]
end
