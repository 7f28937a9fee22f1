/-! the reference's bar of an authority: its texts -/
/-- of the laws from i on, m of them -/
noncomputable def laR (h : Nat → Nat → Int) (c : Nat) (l : Int) (msk : Nat → Nat → Bool) : Nat → Nat → Int
  | 0, _ => 0
  | m + 1, i => if tbR h c l (msk i) i (h 78 i).toNat 0 ≠ 0 then tbR h c l (msk i) i (h 78 i).toNat 0 else laR h c l msk m (i + 1)
noncomputable def mkA : Nat → Bool := fun _ => true
noncomputable def mkL (h : Nat → Nat → Int) : Nat → Nat → Bool := fun i j => btsF h (h 72 2) (skd h (h 72 2)) i j
noncomputable def btR (h : Nat → Nat → Int) (c v : Nat) (l : Int) : Int := if tbR h c l mkA (20 + v) (h 78 (20 + v)).toNat 0 ≠ 0 then tbR h c l mkA (20 + v) (h 78 (20 + v)).toNat 0 else laR h c l (mkL h) (h 72 36).toNat 0
/-- what the reference alone needs -/
noncomputable def IR (S : AH) : Prop := RK S.2 ∧ RV S.2 ∧ RP S.2 ∧ GL S ∧ ∀ v : Nat, (v : Int) < S.2 72 40 → ∃ a, TX S a (20 + v)
/-- the cells that the reference's bars are read from -/
noncomputable def Wh (h h' : Nat → Nat → Int) : Prop := (∀ a, 72 < a → a < 151 → a ≠ 96 → a ≠ 128 → a ≠ 129 → h' a = h a) ∧ ∀ k, k ≠ 75 → k ≠ 76 → h' 72 k = h 72 k
noncomputable def Wf (S T : AH) : Prop := T.1 = S.1 ∧ (∀ a, a ≠ 72 → a ≠ 96 → a ≠ 128 → a ≠ 129 → T.2 a = S.2 a) ∧ ∀ k, k ≠ 75 → k ≠ 76 → T.2 72 k = S.2 72 k
section
variable {L : Nat} {xs : Nat → Int} {d : Nat} {S S' T U W : AH} {h h' : Nat → Nat → Int}
theorem Wf.rf : Wf S S := ⟨rfl, fun _ _ _ _ _ => rfl, fun _ _ _ => rfl⟩
theorem Wf.tr (p : Wf S T) (q : Wf T U) : Wf S U := ⟨q.1.trans p.1, fun a q1 q2 q3 q4 => (q.2.1 a q1 q2 q3 q4).trans (p.2.1 a q1 q2 q3 q4), fun k q1 q2 => (q.2.2 k q1 q2).trans (p.2.2 k q1 q2)⟩
theorem Vf.wf (p : Vf S T) : Wf S T := ⟨p.1, fun a _ _ q1 q2 => p.2 a q1 q2, fun k _ _ => by rw [p.2 72 (by decide) (by decide)]⟩
theorem A96.wf {f : Nat → Bool} (p : A96 S T f) : Wf S T := ⟨p.1, fun a _ q _ _ => p.2.1 a q, fun k _ _ => by rw [p.2.1 72 (by decide)]⟩
theorem Wf.w72 {k : Nat} {v : Int} (hk : k = 75 ∨ k = 76) : Wf S (wr S 72 k v) := ⟨rfl, fun a q _ _ _ => wr_c q, fun j q1 q2 => by rw [wr_f, if_neg (by first | decide | omega)]⟩
theorem Wf.wh (p : Wf S T) : Wh S.2 T.2 := ⟨fun a q1 _ q2 q3 q4 => p.2.1 a (by first | decide | omega) q2 q3 q4, p.2.2⟩
theorem Wf.inv (p : Wf S T) (H : Inv S) : Inv T := H.scr ⟨by rw [p.1]; exact Nat.le_refl _, fun a q1 _ => ⟨by rw [p.1], p.2.1 a (by first | decide | omega) (by first | decide | omega) (by first | decide | omega) (by first | decide | omega)⟩⟩ (fun a k q1 q2 => by
  unfold scr at q2
  by_cases e : a = 72
  · subst e
    exact p.2.2 k (by first | decide | omega) (by first | decide | omega)
  · rw [p.2.1 a e (by first | decide | omega) (by first | decide | omega) (by first | decide | omega)])
theorem IR.rk (H : IR S) : RK S.2 := H.1
theorem IR.rv (H : IR S) : RV S.2 := H.2.1
theorem IR.rp (H : IR S) : RP S.2 := H.2.2.1
theorem IR.gl (H : IR S) : GL S := H.2.2.2.1
theorem IR.tx (H : IR S) {v : Nat} (hv : (v : Int) < S.2 72 40) : ∃ a, TX S a (20 + v) := H.2.2.2.2 v hv
theorem Inv.ir (H : Inv S) : IR S := ⟨H.gk.1, H.gv.1, H.gp.1, H.gl, fun v hv => by
  obtain ⟨-, -, -, -, -, -, -, -, -, -, -, -, -, -, a15, -⟩ := H.gv.2.2.2.1 v hv
  exact ⟨_, a15⟩⟩
theorem Wf.ir (p : Wf S T) (H : IR S) : IR T := by
  obtain ⟨h1, h2, h3, h4, h5⟩ := H
  have C : ∀ a, a ≠ 72 → a ≠ 96 → (a < 128 ∨ 129 < a) → T.2 a = S.2 a := fun a q1 q2 q3 => p.2.1 a q1 q2 (by first | decide | omega) (by first | decide | omega)
  have hm : HM S.2 T.2 := by
    unfold HM
    rw [p.2.2 4 (by decide) (by decide), p.2.2 5 (by decide) (by decide)]
    omega
  have hF : Fr S T := ⟨by rw [p.1]; exact Nat.le_refl _, fun a q1 _ => ⟨by rw [p.1], C a (by first | decide | omega) (by first | decide | omega) (by first | decide | omega)⟩⟩
  have hk : ∀ k, lvf k → T.2 72 k = S.2 72 k := fun k q => p.2.2 k (by unfold lvf at q; omega) (by unfold lvf at q; omega)
  refine ⟨h1.fr (fun a q => C a (by first | decide | omega) (by first | decide | omega) (by first | decide | omega)) hk hm, h2.fr (fun a q => C a (by first | decide | omega) (by first | decide | omega) (by first | decide | omega)) (fun k q => p.2.2 k (by first | decide | omega) (by first | decide | omega)) hm, h3.fr (p.2.2 4 (by decide) (by decide)) (p.2.2 5 (by decide) (by decide)) (fun a q => C a (by first | decide | omega) (by first | decide | omega) (by first | decide | omega)), h4.fr hF (fun a q => C a (by unfold lvk at q; omega) (by unfold lvk at q; omega) (by unfold lvk at q; omega)) hk, fun v hv => ?_⟩
  obtain ⟨a, ha⟩ := h5 v (by rw [← p.2.2 40 (by decide) (by decide)]; exact hv)
  exact ⟨a, ha.fr hF (fun b q1 q2 => C b (by first | decide | omega) (by first | decide | omega) (by first | decide | omega))⟩
theorem Wh.le (p : Wh h h') (c : Nat) (l : Int) : leC h' c l = leC h c l ∧ udC h' c = udC h c ∧ rkC h' c = rkC h c := leC_fr (fun a q1 q2 q3 q4 q5 q6 => p.1 a (by first | decide | omega) q6 q2 q3 q4) p.2 c l
theorem Wh.br (p : Wh h h') (c : Nat) (l : Int) (k : Nat) : brH h' c l k = brH h c l k := by
  obtain ⟨e1, e2, e3⟩ := p.le c l
  unfold brH cdK
  rw [e1, e2, e3, p.1 79 (by decide) (by decide) (by decide) (by decide) (by decide), p.1 80 (by decide) (by decide) (by decide) (by decide) (by decide), p.1 82 (by decide) (by decide) (by decide) (by decide) (by decide), p.1 83 (by decide) (by decide) (by decide) (by decide) (by decide), p.1 84 (by decide) (by decide) (by decide) (by decide) (by decide), p.1 85 (by decide) (by decide) (by decide) (by decide) (by decide), p.1 113 (by decide) (by decide) (by decide) (by decide) (by decide)]
theorem Wh.tb (p : Wh h h') (c : Nat) (l : Int) (mk : Nat → Bool) (t : Nat) : ∀ m j, tbR h' c l mk t m j = tbR h c l mk t m j := by
  intro m
  induction m with
  | zero => intro j; rfl
  | succ m ih =>
    intro j
    show (if mk j = true ∧ brH h' c l (16 * t + j) ≠ 0 then brH h' c l (16 * t + j) else tbR h' c l mk t m (j + 1)) = (if mk j = true ∧ brH h c l (16 * t + j) ≠ 0 then brH h c l (16 * t + j) else tbR h c l mk t m (j + 1))
    rw [p.br, ih]
theorem Wh.la (p : Wh h h') (c : Nat) (l : Int) (mk : Nat → Nat → Bool) : ∀ m i, laR h' c l mk m i = laR h c l mk m i := by
  intro m
  induction m with
  | zero => intro i; rfl
  | succ m ih =>
    intro i
    show (if tbR h' c l (mk i) i (h' 78 i).toNat 0 ≠ 0 then tbR h' c l (mk i) i (h' 78 i).toNat 0 else laR h' c l mk m (i + 1)) = (if tbR h c l (mk i) i (h 78 i).toNat 0 ≠ 0 then tbR h c l (mk i) i (h 78 i).toNat 0 else laR h c l mk m (i + 1))
    rw [p.1 78 (by decide) (by decide) (by decide) (by decide) (by decide), p.tb, ih]
theorem Wh.mk (p : Wh h h') : mkL h' = mkL h := by
  funext i j
  unfold mkL btsF inF
  have e79 := p.1 79 (by decide) (by decide) (by decide) (by decide) (by decide)
  have e80 := p.1 80 (by decide) (by decide) (by decide) (by decide) (by decide)
  have e81 := p.1 81 (by decide) (by decide) (by decide) (by decide) (by decide)
  have e78 := p.1 78 (by decide) (by decide) (by decide) (by decide) (by decide)
  have e94 := p.1 94 (by decide) (by decide) (by decide) (by decide) (by decide)
  have e95 := p.1 95 (by decide) (by decide) (by decide) (by decide) (by decide)
  rw [skd_fr (h := h) (h' := h') _ e78 e79 e80 e81 e94 e95 (p.2 36 (by decide) (by decide)), e78, e94, e95, p.2 2 (by decide) (by decide)]
theorem Wh.bt (p : Wh h h') (c v : Nat) (l : Int) : btR h' c v l = btR h c v l := by
  unfold btR
  rw [p.tb, p.la, p.mk, p.1 78 (by decide) (by decide) (by decide) (by decide) (by decide), p.2 36 (by decide) (by decide)]
theorem brK_bd (rk td lt nm : Int) (o : Option Int) : 0 ≤ brK rk td lt nm o ∧ brK rk td lt nm o ≤ 8 := by
  unfold brK
  repeat' split
  all_goals omega
theorem brH_bd (h : Nat → Nat → Int) (c : Nat) (l : Int) (k : Nat) : 0 ≤ brH h c l k ∧ brH h c l k ≤ 8 := by
  unfold brH
  split
  · exact brK_bd _ _ _ _ _
  · omega
theorem tbR_bd (h : Nat → Nat → Int) (c : Nat) (l : Int) (mk : Nat → Bool) (t : Nat) : ∀ m j, 0 ≤ tbR h c l mk t m j ∧ tbR h c l mk t m j ≤ 8 := by
  intro m
  induction m with
  | zero => intro j; exact ⟨Int.le_refl 0, by show (0 : Int) ≤ 8; decide⟩
  | succ m ih =>
    intro j
    unfold tbR
    split
    · exact brH_bd _ _ _ _
    · exact ih _
theorem laR_bd (h : Nat → Nat → Int) (c : Nat) (l : Int) (mk : Nat → Nat → Bool) : ∀ m i, 0 ≤ laR h c l mk m i ∧ laR h c l mk m i ≤ 8 := by
  intro m
  induction m with
  | zero => intro j; exact ⟨Int.le_refl 0, by show (0 : Int) ≤ 8; decide⟩
  | succ m ih =>
    intro j
    unfold laR
    split
    · exact tbR_bd _ _ _ _ _ _ _
    · exact ih _
theorem btR_bd (h : Nat → Nat → Int) (c v : Nat) (l : Int) : 0 ≤ btR h c v l ∧ btR h c v l ≤ 8 := by
  unfold btR
  split
  · exact tbR_bd _ _ _ _ _ _ _
  · exact laR_bd _ _ _ _ _ _
theorem m_barK (H : IR S) {c tt j a : Nat} (hc : (c : Int) < S.2 72 52) (h75 : S.2 72 75 = c) (hT : TX S a tt) (ht : tt < 100) (hj : (j : Int) < S.2 78 tt) : ∃ U, ev (WK L xs) (d + 5) 265 [vr 72, vi ((16 * tt + j : Nat) : Int)] S = some (brH S.2 c (S.2 72 76) (16 * tt + j), U) ∧ Vf S U := by
  have gp := H.rp
  have gk := H.rk
  have hn := gk.1
  have j16 : j < 16 := (hT.cl (L := L) (xs := xs) hj).1
  have q1600 : (0 : Int) ≤ ((16 * tt + j : Nat) : Int) ∧ ((16 * tt + j : Nat) : Int) < 1600 := by omega
  rw [q_265, if_pos q1600, Int.toNat_natCast, m_words, bR]
  simp only [bi_0]
  unfold brH
  by_cases hw : isWd (S.2 79 (16 * tt + j)) = true
  rotate_left
  · rw [if_pos hw, if_neg hw]
    exact ⟨S, rfl, Vf.rf⟩
  rw [if_neg (fun z => z hw), if_pos hw]
  obtain ⟨b, n, p, r, fr, g, b1, b2, b3, b4, b5, b6, b7, b8, b9, f1, f2, f3, f4⟩ := hT.rule (L := L) (xs := xs) hj hw
  obtain ⟨o, ho, hB⟩ := rdC_wf1 (le := leC S.2 c (S.2 72 76)) (ud := udC S.2 c) (t := byt S.2 b) (n := n) _ _ _ b8
  obtain ⟨U, u1, u2⟩ := m_holds (L := L) (xs := xs) (d := d) gp gk hc h75 ht j16 f1 f2 f3 f4 ho
  rw [b9, ho.ev]
  have U75 : U.2 72 75 = c := by rw [u2.2 72 (by decide) (by decide), h75]
  have U80 : U.2 80 = S.2 80 := u2.2 80 (by decide) (by decide)
  have U113 : U.2 113 = S.2 113 := u2.2 113 (by decide) (by decide)
  have hrk : ev (WK L xs) (d + 4) 270 [vr 72, vi (c : Int)] U = some (rkC S.2 c, U) := by
    have := m_rank (L := L) (xs := xs) (d := d + 3) (S := U) (u2.rp gp) (u2.rk gk) (c := c) (by rw [u2.2 72 (by decide) (by decide)]; exact hc)
    rw [(u2.le c 0).2.2] at this
    exact this
  refine ⟨U, ?_, u2⟩
  rcases hB with e | hB
  · subst e
    rw [show ev (WK L xs) (d + 4) 266 [vr 72, vi ((16 * tt + j : Nat) : Int)] S = some (2, U) from u1, bR, if_pos rfl]
    rfl
  · have hv : ∃ v : Int, (v = 0 ∨ v = 1) ∧ o = some v ∧ i32 v = v := by
      rcases hB with e | e
      · exact ⟨0, Or.inl rfl, e, by decide⟩
      · exact ⟨1, Or.inr rfl, e, by decide⟩
    obtain ⟨v, hv, eo, iv⟩ := hv
    subst eo
    have u3 : ev (WK L xs) (d + 4) 266 [vr 72, vi ((16 * tt + j : Nat) : Int)] S = some (v, U) := by
      rw [u1]
      show some (i32 v, U) = _
      rw [iv]
    rw [u3, bR, if_neg (show ¬ v = 2 by omega)]
    show _ = some (if S.2 79 (16 * tt + j) = 111 then (if v = 1 then 0 else 5) else if v = 0 then 0 else if S.2 79 (16 * tt + j) = 110 then 5 else if S.2 79 (16 * tt + j) = 115 then (if rkC S.2 c < S.2 80 (16 * tt + j) then 6 else 0) else (if S.2 113 c = 0 then 7 else 0), U)
    by_cases c1 : S.2 79 (16 * tt + j) = 111
    · rw [if_pos c1, if_pos c1]
      by_cases c2 : v = 1
      · rw [if_pos c2, if_pos c2]
      · rw [if_neg c2, if_neg c2]
    rw [if_neg c1, if_neg c1]
    by_cases c2 : v = 0
    · rw [if_pos c2, if_pos c2]
    rw [if_neg c2, if_neg c2]
    by_cases c3 : S.2 79 (16 * tt + j) = 110
    · rw [if_pos c3, if_pos c3]
    rw [if_neg c3, if_neg c3]
    by_cases c4 : S.2 79 (16 * tt + j) = 115
    · rw [if_pos c4, if_pos c4, U75, hrk, bR, if_pos q1600, U80]
      by_cases c5 : rkC S.2 c < S.2 80 (16 * tt + j)
      · rw [if_pos c5, if_pos c5]
      · rw [if_neg c5, if_neg c5]
    · rw [if_neg c4, if_neg c4, U75, if_pos (show (0 : Int) ≤ (c : Int) ∧ (c : Int) < 300 by omega), Int.toNat_natCast, U113]
      by_cases c5 : S.2 113 c = 0
      · rw [if_pos c5, if_pos c5]
      · rw [if_neg c5, if_neg c5]
theorem w16t {tt j : Nat} (ht : tt < 100) (hj : j ≤ 16) : w32 (w32 (16 * (tt : Int)) + (j : Int)) = ((16 * tt + j : Nat) : Int) := by
  rw [w32e (x := 16 * (tt : Int)) (by first | decide | omega) (by first | decide | omega), w32e (by first | decide | omega) (by first | decide | omega)]
  omega
theorem wj {j : Nat} (h : j ≤ 1000) : w32 ((j : Int) + 1) = ((j + 1 : Nat) : Int) := by
  rw [w32e (by first | decide | omega) (by first | decide | omega)]
  rfl
theorem w20v {v : Nat} {n : Int} (h : (v : Int) < n) (h2 : n ≤ 80) : w32 (20 + (v : Int)) = ((20 + v : Nat) : Int) := by
  rw [w32e (by first | decide | omega) (by first | decide | omega)]
  omega
/-- the words of an authority -/
theorem m_wordL (H : IR S) {c v : Nat} (hc : (c : Int) < S.2 72 52) (hv : (v : Int) < S.2 72 40) (h75 : S.2 72 75 = c) : ∀ (m j : Nat) (T : AH), j + m = (S.2 78 (20 + v)).toNat → Vf S T → ∃ U, LQ (WK L xs) (ev (WK L xs) (d + 5)) 264 2 [some (vr 72), some (vi (v : Int)), some (vi (j : Int)), none, none] [] T = (if tbR S.2 c (S.2 72 76) mkA (20 + v) m j ≠ 0 then some (tbR S.2 c (S.2 72 76) mkA (20 + v) m j, U) else bindR (ev (WK L xs) (d + 5) 232 [vr 72, vi (S.2 72 2)] U) (fun _ S2 => LQ (WK L xs) (ev (WK L xs) (d + 5)) 264 51 [some (vr 72), none, some (vi 0), none, none] [] S2)) ∧ Vf S U := by
  have hv80 := H.rv.1
  obtain ⟨a, a15⟩ := H.tx hv
  have hcm := cm_bd a15
  have q100 : (0 : Int) ≤ ((20 + v : Nat) : Int) ∧ ((20 + v : Nat) : Int) < 100 := by omega
  intro m
  induction m with
  | zero =>
    intro j T hj hT
    refine ⟨T, ?_, hT⟩
    rw [q_264_2, w20v hv hv80.2, if_pos q100, Int.toNat_natCast, hT.2 78 (by decide) (by decide), if_neg (by first | decide | omega), hT.2 72 (by decide) (by decide)]
    rfl
  | succ m ih =>
    intro j T hj hT
    have HT := hT.wf.ir H
    have T72 : T.2 72 = S.2 72 := hT.2 72 (by decide) (by decide)
    have T78 : T.2 78 = S.2 78 := hT.2 78 (by decide) (by decide)
    obtain ⟨z, z15⟩ := HT.tx (v := v) (by rw [T72]; exact hv)
    obtain ⟨U, u1, u2⟩ := m_barK (L := L) (xs := xs) (d := d) HT (c := c) (j := j) (by rw [T72]; exact hc) (by rw [T72]; exact h75) z15 (by first | decide | omega) (by rw [T78]; omega)
    rw [hT.wf.wh.br, T72] at u1
    obtain ⟨V, v1, v2⟩ := ih (j + 1) U (by first | decide | omega) (hT.tr u2)
    have hb := brH_bd S.2 c (S.2 72 76) (16 * (20 + v) + j)
    have go := q_264_2 L xs (d + 5) T (v : Int) (j : Int)
    rw [w20v hv hv80.2, if_pos q100, Int.toNat_natCast, T78, if_pos (show (j : Int) < S.2 78 (20 + v) by omega), w16t (by first | decide | omega) (by first | decide | omega), u1, bR, wj (j := j) (by first | decide | omega)] at go
    show ∃ U, LQ (WK L xs) (ev (WK L xs) (d + 5)) 264 2 [some (vr 72), some (vi (v : Int)), some (vi (j : Int)), none, none] [] T = (if (if mkA j = true ∧ brH S.2 c (S.2 72 76) (16 * (20 + v) + j) ≠ 0 then brH S.2 c (S.2 72 76) (16 * (20 + v) + j) else tbR S.2 c (S.2 72 76) mkA (20 + v) m (j + 1)) ≠ 0 then some ((if mkA j = true ∧ brH S.2 c (S.2 72 76) (16 * (20 + v) + j) ≠ 0 then brH S.2 c (S.2 72 76) (16 * (20 + v) + j) else tbR S.2 c (S.2 72 76) mkA (20 + v) m (j + 1)), U) else bindR (ev (WK L xs) (d + 5) 232 [vr 72, vi (S.2 72 2)] U) (fun _ S2 => LQ (WK L xs) (ev (WK L xs) (d + 5)) 264 51 [some (vr 72), none, some (vi 0), none, none] [] S2)) ∧ Vf S U
    by_cases z : brH S.2 c (S.2 72 76) (16 * (20 + v) + j) = 0
    · rw [if_neg (by first | decide | omega)] at go
      rw [if_neg (show ¬ (mkA j = true ∧ brH S.2 c (S.2 72 76) (16 * (20 + v) + j) ≠ 0) from fun y => y.2 z)]
      exact ⟨V, go.trans v1, v2⟩
    · rw [if_pos (by first | decide | omega)] at go
      rw [if_pos (show mkA j = true ∧ brH S.2 c (S.2 72 76) (16 * (20 + v) + j) ≠ 0 from ⟨rfl, z⟩)]
      refine ⟨U, ?_, hT.tr u2⟩
      rw [if_pos (show brH S.2 c (S.2 72 76) (16 * (20 + v) + j) ≠ 0 from z)]
      exact go
/-- the clauses of a law that count -/
theorem m_lawC (H : IR S) {c i : Nat} (hc : (c : Int) < S.2 72 52) (hi : (i : Int) < S.2 72 36) (h75 : S.2 72 75 = c) (h96 : ∀ k, k < 320 → S.2 96 k = if skd S.2 (S.2 72 2) k then 1 else 0) : ∀ (m j : Nat) (T : AH), j + m = (S.2 78 i).toNat → Vf S T → ∃ U, LQ (WK L xs) (ev (WK L xs) (d + 5)) 264 61 [some (vr 72), none, some (vi (i : Int)), some (vi (j : Int)), none] [] T = (if tbR S.2 c (S.2 72 76) (mkL S.2 i) i m j ≠ 0 then some (tbR S.2 c (S.2 72 76) (mkL S.2 i) i m j, U) else LQ (WK L xs) (ev (WK L xs) (d + 5)) 264 51 [some (vr 72), none, some (vi ((i + 1 : Nat) : Int)), none, none] [] U) ∧ Vf S U := by
  have hl20 := H.gl
  have a15 := (H.gl.2.2.2 i hi).2.2
  have hcm := cm_bd a15
  have i20 : i < 20 := by have := hl20.2.2.1; omega
  have q100 : (0 : Int) ≤ (i : Int) ∧ (i : Int) < 100 := by omega
  intro m
  induction m with
  | zero =>
    intro j T hj hT
    refine ⟨T, ?_, hT⟩
    rw [q_264_61, if_pos q100, Int.toNat_natCast, hT.2 78 (by decide) (by decide), if_neg (by first | decide | omega), wj (j := i) (by first | decide | omega)]
    rfl
  | succ m ih =>
    intro j T hj hT
    have HT := hT.wf.ir H
    have T72 : T.2 72 = S.2 72 := hT.2 72 (by decide) (by decide)
    have T78 : T.2 78 = S.2 78 := hT.2 78 (by decide) (by decide)
    have hA : A96 T T (skd S.2 (S.2 72 2)) := ⟨rfl, fun _ _ => rfl, fun k hk => by rw [hT.2 96 (by decide) (by decide)]; exact h96 k hk⟩
    have hcnt := m_isCounted (L := L) (xs := xs) (d := d + 2) hA (i := i) (j := j) i20 (by first | decide | omega) (S.2 72 2)
    have einF : inF T.2 = inF S.2 := by
      funext day k
      unfold inF
      rw [hT.2 94 (by decide) (by decide), hT.2 95 (by decide) (by decide)]
    rw [einF] at hcnt
    have hmk : mkL S.2 i j = true ↔ (inF S.2 (S.2 72 2) i = true ∧ skd S.2 (S.2 72 2) (16 * i + j) = false) := by
      unfold mkL btsF
      rw [decide_eq_true (show (j : Int) < S.2 78 i by omega), Bool.and_true, Bool.and_eq_true, Bool.not_eq_true']
    obtain ⟨V, v1, v2⟩ := ih (j + 1) T (by first | decide | omega) hT
    have go := q_264_61 L xs (d + 5) T (i : Int) (j : Int)
    rw [if_pos q100, Int.toNat_natCast, T78, if_pos (show (j : Int) < S.2 78 i by omega), T72, show ev (WK L xs) (d + 5) 234 [vr 72, vi (i : Int), vi (j : Int), vi (S.2 72 2)] T = _ from hcnt, bR, wj (j := j) (by first | decide | omega)] at go
    simp only [bi_0] at go
    show ∃ U, LQ (WK L xs) (ev (WK L xs) (d + 5)) 264 61 [some (vr 72), none, some (vi (i : Int)), some (vi (j : Int)), none] [] T = (if (if mkL S.2 i j = true ∧ brH S.2 c (S.2 72 76) (16 * i + j) ≠ 0 then brH S.2 c (S.2 72 76) (16 * i + j) else tbR S.2 c (S.2 72 76) (mkL S.2 i) i m (j + 1)) ≠ 0 then some ((if mkL S.2 i j = true ∧ brH S.2 c (S.2 72 76) (16 * i + j) ≠ 0 then brH S.2 c (S.2 72 76) (16 * i + j) else tbR S.2 c (S.2 72 76) (mkL S.2 i) i m (j + 1)), U) else LQ (WK L xs) (ev (WK L xs) (d + 5)) 264 51 [some (vr 72), none, some (vi ((i + 1 : Nat) : Int)), none, none] [] U) ∧ Vf S U
    by_cases cm : mkL S.2 i j = true
    rotate_left
    · rw [if_pos (fun z => cm (hmk.mpr z))] at go
      rw [if_neg (show ¬ (mkL S.2 i j = true ∧ brH S.2 c (S.2 72 76) (16 * i + j) ≠ 0) from fun y => cm y.1)]
      exact ⟨V, go.trans v1, v2⟩
    rw [if_neg (fun z => z (hmk.mp cm))] at go
    obtain ⟨U, u1, u2⟩ := m_barK (L := L) (xs := xs) (d := d) HT (c := c) (j := j) (by rw [T72]; exact hc) (by rw [T72]; exact h75) (HT.gl.2.2.2 i (by rw [T72]; exact hi)).2.2 (by first | decide | omega) (by rw [T78]; omega)
    rw [hT.wf.wh.br, T72] at u1
    rw [w16t (by first | decide | omega) (by first | decide | omega), u1, bR] at go
    have hb := brH_bd S.2 c (S.2 72 76) (16 * i + j)
    obtain ⟨V, v1, v2⟩ := ih (j + 1) U (by first | decide | omega) (hT.tr u2)
    by_cases z : brH S.2 c (S.2 72 76) (16 * i + j) = 0
    · rw [if_neg (by first | decide | omega)] at go
      rw [if_neg (show ¬ (mkL S.2 i j = true ∧ brH S.2 c (S.2 72 76) (16 * i + j) ≠ 0) from fun y => y.2 z)]
      exact ⟨V, go.trans v1, v2⟩
    · rw [if_pos (by first | decide | omega)] at go
      rw [if_pos (show mkL S.2 i j = true ∧ brH S.2 c (S.2 72 76) (16 * i + j) ≠ 0 from ⟨cm, z⟩)]
      refine ⟨U, ?_, hT.tr u2⟩
      rw [if_pos (show brH S.2 c (S.2 72 76) (16 * i + j) ≠ 0 from z)]
      exact go
theorem m_lawL (H : IR S) {c : Nat} (hc : (c : Int) < S.2 72 52) (h75 : S.2 72 75 = c) (h96 : ∀ k, k < 320 → S.2 96 k = if skd S.2 (S.2 72 2) k then 1 else 0) : ∀ (m i : Nat) (T : AH), (i : Int) + m = S.2 72 36 → Vf S T → ∃ U, LQ (WK L xs) (ev (WK L xs) (d + 5)) 264 51 [some (vr 72), none, some (vi (i : Int)), none, none] [] T = some (laR S.2 c (S.2 72 76) (mkL S.2) m i, U) ∧ Vf S U := by
  intro m
  induction m with
  | zero =>
    intro i T hi hT
    refine ⟨T, ?_, hT⟩
    rw [q_264_51, hT.2 72 (by decide) (by decide), if_neg (by first | decide | omega)]
    rfl
  | succ m ih =>
    intro i T hi hT
    have hil : (i : Int) < S.2 72 36 := by omega
    obtain ⟨U, u1, u2⟩ := m_lawC (L := L) (xs := xs) (d := d) H hc hil h75 h96 (S.2 78 i).toNat 0 T (by first | decide | omega) hT
    obtain ⟨V, v1, v2⟩ := ih (i + 1) U (by first | decide | omega) u2
    show ∃ U, LQ (WK L xs) (ev (WK L xs) (d + 5)) 264 51 [some (vr 72), none, some (vi (i : Int)), none, none] [] T = some (if tbR S.2 c (S.2 72 76) (mkL S.2 i) i (S.2 78 i).toNat 0 ≠ 0 then tbR S.2 c (S.2 72 76) (mkL S.2 i) i (S.2 78 i).toNat 0 else laR S.2 c (S.2 72 76) (mkL S.2) m (i + 1), U) ∧ Vf S U
    have go := q_264_51 L xs (d + 5) T (i : Int)
    rw [hT.2 72 (by decide) (by decide), if_pos hil] at go
    have go2 := go.trans u1
    by_cases z : tbR S.2 c (S.2 72 76) (mkL S.2 i) i (S.2 78 i).toNat 0 = 0
    · rw [if_neg (fun y => y z)] at go2
      rw [if_neg (fun y => y z)]
      exact ⟨V, go2.trans v1, v2⟩
    · rw [if_pos z] at go2
      rw [if_pos z]
      exact ⟨U, go2, u2⟩
theorem m_bars (H : IR S) {c v : Nat} (hc : (c : Int) < S.2 72 52) (hv : (v : Int) < S.2 72 40) (h75 : S.2 72 75 = c) : ∃ U, ev (WK L xs) (d + 6) 264 [vr 72, vi (v : Int)] S = some (btR S.2 c v (S.2 72 76), U) ∧ Wf S U := by
  obtain ⟨U, u1, u2⟩ := m_wordL (L := L) (xs := xs) (d := d) H hc hv h75 (S.2 78 (20 + v)).toNat 0 S (by first | decide | omega) Vf.rf
  have go := (q_264 L xs (d + 5) S (v : Int)).trans u1
  unfold btR
  by_cases z : tbR S.2 c (S.2 72 76) mkA (20 + v) (S.2 78 (20 + v)).toNat 0 = 0
  rotate_left
  · rw [if_pos z] at go
    rw [if_pos z]
    exact ⟨U, go, u2.wf⟩
  rw [if_neg (fun y => y z)] at go
  rw [if_neg (fun y => y z)]
  have HU := u2.wf.ir H
  obtain ⟨A, a1, a2⟩ := m_strikes (L := L) (xs := xs) (d := d + 2) HU.gl (S.2 72 2)
  rw [show ev (WK L xs) (d + 5) 232 [vr 72, vi (S.2 72 2)] U = some (0, A) from a1, bR] at go
  have wA : Wf S A := u2.wf.tr a2.wf
  have HA := wA.ir H
  have eN : A.2 72 2 = S.2 72 2 := wA.2.2 2 (by decide) (by decide)
  have sk : skd A.2 (A.2 72 2) = skd U.2 (S.2 72 2) := by
    rw [eN]
    exact skd_fr _ (a2.2.1 78 (by decide)) (a2.2.1 79 (by decide)) (a2.2.1 80 (by decide)) (a2.2.1 81 (by decide)) (a2.2.1 94 (by decide)) (a2.2.1 95 (by decide)) (by rw [a2.2.1 72 (by decide)])
  have A72 : A.2 72 = S.2 72 := by rw [a2.2.1 72 (by decide), u2.2 72 (by decide) (by decide)]
  obtain ⟨V, v1, v2⟩ := m_lawL (L := L) (xs := xs) (d := d) HA (c := c) (by rw [A72]; exact hc) (by rw [A72]; exact h75) (by rw [sk]; exact a2.2.2) (S.2 72 36).toNat 0 A (by rw [A72]; have := H.gl.2.1; omega) Vf.rf
  rw [wA.wh.la, wA.wh.mk, A72] at v1
  exact ⟨V, go.trans v1, wA.tr v2.wf⟩
end
