/-! the reference's bar of an authority, and which one lets -/
noncomputable def ceP (h : Nat → Nat → Int) (c v : Nat) (y : Int) (x : Nat) : Bool := decide (h 97 x = 1 ∧ h 102 x = v ∧ h 101 x = -1 ∧ uN h (h 109 c) (h 98 x) = true ∧ lft h x y < h 111 c)
noncomputable def ceL (h : Nat → Nat → Int) (c v : Nat) (y : Int) : Nat → Nat → Bool
  | 0, _ => false
  | m + 1, x => ceP h c v y x || ceL h c v y m (x + 1)
noncomputable def hasV (h : Nat → Nat → Int) (c v : Nat) (y : Int) : Int := if h 112 c = -1 then lft h v y else bnd h (h 112 c).toNat y
noncomputable def barV (h : Nat → Nat → Int) (c v : Nat) : Int :=
  if uN h (h 109 c) (h 98 v) = false ∨ ofY h v (yr (h 72 2)) = false then 1
  else if h 101 v ≠ -1 ∨ (h 97 v = 4 ∧ h 102 v ≠ -1) then 2
  else if hasV h c v (yr (h 72 2)) < h 111 c then 3
  else if ceL h c v (yr (h 72 2)) (h 72 40).toNat 0 = true then 4
  else btR h c v (lft h v (yr (h 72 2)))
noncomputable def leV (h : Nat → Nat → Int) (c : Nat) (k : Int) : Nat → Nat → Int → Int ⊕ Int
  | 0, _, w => .inr w
  | m + 1, v, w => if h 97 v = k ∧ (h 112 c = -1 ∨ h 124 (h 112 c).toNat = v) then (if barV h c v = 0 then .inl v else leV h c k m (v + 1) (max w (barV h c v))) else leV h c k m (v + 1) w
noncomputable def leK (h : Nat → Nat → Int) (c : Nat) : List Int → Int → Int
  | [], w => -10 - w
  | k :: r, w => match leV h c k (h 72 40).toNat 0 w with
    | .inl v => v
    | .inr u => leK h c r u
noncomputable def ltV (h : Nat → Nat → Int) (c : Nat) : Int := leK h c [0, 2, 3, 4] 1
section
variable {L : Nat} {xs : Nat → Int} {d : Nat} {S S' T U W : AH} {h h' : Nat → Nat → Int}
theorem Wh.lf (p : Wh h h') : lft h' = lft h := lft_fr (fun a q => p.1 a (by first | decide | omega) (by first | decide | omega) (by first | decide | omega) (by first | decide | omega) (by first | decide | omega)) (p.2 52 (by decide) (by decide)) (p.2 70 (by decide) (by decide))
theorem Wh.un (p : Wh h h') : uN h' = uN h := by
  funext a b
  unfold uN
  rw [p.1 74 (by decide) (by decide) (by decide) (by decide) (by decide)]
theorem Wh.oy (p : Wh h h') : ofY h' = ofY h := ofY_fr (p.1 97 (by decide) (by decide) (by decide) (by decide) (by decide)) (p.1 102 (by decide) (by decide) (by decide) (by decide) (by decide)) (p.1 100 (by decide) (by decide) (by decide) (by decide) (by decide))
theorem Wh.bn (p : Wh h h') : bnd h' = bnd h := (bns_fr (p.1 115 (by decide) (by decide) (by decide) (by decide) (by decide)) (p.1 112 (by decide) (by decide) (by decide) (by decide) (by decide)) (p.1 111 (by decide) (by decide) (by decide) (by decide) (by decide)) (p.2 52 (by decide) (by decide)) (p.1 124 (by decide) (by decide) (by decide) (by decide) (by decide)) (p.1 125 (by decide) (by decide) (by decide) (by decide) (by decide)) (p.1 126 (by decide) (by decide) (by decide) (by decide) (by decide)) (p.1 127 (by decide) (by decide) (by decide) (by decide) (by decide)) (p.2 70 (by decide) (by decide))).1
theorem Wh.ce (p : Wh h h') (c v : Nat) (y : Int) : ∀ m x, ceL h' c v y m x = ceL h c v y m x := by
  intro m
  induction m with
  | zero => intro x; rfl
  | succ m ih =>
    intro x
    show (ceP h' c v y x || ceL h' c v y m (x + 1)) = (ceP h c v y x || ceL h c v y m (x + 1))
    rw [ih]
    unfold ceP
    rw [p.lf, p.un, p.1 97 (by decide) (by decide) (by decide) (by decide) (by decide), p.1 98 (by decide) (by decide) (by decide) (by decide) (by decide), p.1 101 (by decide) (by decide) (by decide) (by decide) (by decide), p.1 102 (by decide) (by decide) (by decide) (by decide) (by decide), p.1 109 (by decide) (by decide) (by decide) (by decide) (by decide), p.1 111 (by decide) (by decide) (by decide) (by decide) (by decide)]
theorem Wh.bar (p : Wh h h') (c v : Nat) : barV h' c v = barV h c v := by
  unfold barV hasV
  rw [p.lf, p.un, p.oy, p.bn, p.ce, p.bt, p.1 97 (by decide) (by decide) (by decide) (by decide) (by decide), p.1 98 (by decide) (by decide) (by decide) (by decide) (by decide), p.1 101 (by decide) (by decide) (by decide) (by decide) (by decide), p.1 102 (by decide) (by decide) (by decide) (by decide) (by decide), p.1 109 (by decide) (by decide) (by decide) (by decide) (by decide), p.1 111 (by decide) (by decide) (by decide) (by decide) (by decide), p.1 112 (by decide) (by decide) (by decide) (by decide) (by decide), p.2 2 (by decide) (by decide), p.2 40 (by decide) (by decide)]
theorem Wh.lv (p : Wh h h') (c : Nat) (k : Int) : ∀ m v w, leV h' c k m v w = leV h c k m v w := by
  intro m
  induction m with
  | zero => intro v w; rfl
  | succ m ih =>
    intro v w
    show (if h' 97 v = k ∧ (h' 112 c = -1 ∨ h' 124 (h' 112 c).toNat = v) then (if barV h' c v = 0 then .inl v else leV h' c k m (v + 1) (max w (barV h' c v))) else leV h' c k m (v + 1) w) = (if h 97 v = k ∧ (h 112 c = -1 ∨ h 124 (h 112 c).toNat = v) then (if barV h c v = 0 then .inl v else leV h c k m (v + 1) (max w (barV h c v))) else leV h c k m (v + 1) w)
    rw [ih, ih, p.bar, p.1 97 (by decide) (by decide) (by decide) (by decide) (by decide), p.1 112 (by decide) (by decide) (by decide) (by decide) (by decide), p.1 124 (by decide) (by decide) (by decide) (by decide) (by decide)]
theorem Wh.lk (p : Wh h h') (c : Nat) : ∀ r w, leK h' c r w = leK h c r w := by
  intro r
  induction r with
  | nil => intro w; rfl
  | cons k r ih =>
    intro w
    show (match leV h' c k (h' 72 40).toNat 0 w with
      | .inl v => v
      | .inr u => leK h' c r u) = (match leV h c k (h 72 40).toNat 0 w with
      | .inl v => v
      | .inr u => leK h c r u)
    rw [p.lv, p.2 40 (by decide) (by decide)]
    cases leV h c k (h 72 40).toNat 0 w with
    | inl v => rfl
    | inr u => exact ih u
theorem Wh.lt (p : Wh h h') (c : Nat) : ltV h' c = ltV h c := p.lk c _ _
theorem barV_bd (h : Nat → Nat → Int) (c v : Nat) : 0 ≤ barV h c v ∧ barV h c v ≤ 8 := by
  unfold barV
  split
  · omega
  split
  · omega
  split
  · omega
  split
  · omega
  exact btR_bd _ _ _ _
theorem m_ceL (gk : RK S.2) (gv : RV S.2) (gp : RP S.2) {c v : Nat} (hc : (c : Int) < S.2 72 52) : ∀ (m x : Nat), x + m = (S.2 72 40).toNat → LQ (WK L xs) (ev (WK L xs) (d + 4)) 263 2 [some (vr 72), some (vi (c : Int)), some (vi (v : Int)), some (vi (x : Int))] [] S = some (if ceL S.2 c v (yr (S.2 72 2)) m x = true then 0 else 1, S) := by
  have hn := gv.1
  have hk := gk.1
  obtain ⟨-, r2, -⟩ := gk.2.2.2.1 c hc
  have qc : (0 : Int) ≤ (c : Int) ∧ (c : Int) < 300 := by omega
  intro m
  induction m with
  | zero =>
    intro x hx
    rw [q_263_2, if_neg (by first | decide | omega)]
    rfl
  | succ m ih =>
    intro x hx
    have hxl : (x : Int) < S.2 72 40 := by omega
    have qx : (0 : Int) ≤ (x : Int) ∧ (x : Int) < 80 := by omega
    have e1 : w32 ((x : Int) + 1) = ((x + 1 : Nat) : Int) := by
      rw [w32e (by first | decide | omega) (by first | decide | omega)]
      rfl
    obtain ⟨-, s2, -⟩ := gv.2.1 x hxl
    have hi := ih (x + 1) (by first | decide | omega)
    have go := q_263_2 L xs (d + 4) S (c : Int) (v : Int) (x : Int)
    rw [if_pos hxl, e1] at go
    simp only [if_pos qx, if_pos qc, Int.toNat_natCast] at go
    rw [m_isUnder gp _ _ r2.1 r2.2 s2.1, bR, m_year, bR, show idiv (S.2 72 2) 360 = yr (S.2 72 2) from rfl, m_leftOf gk gv gp hxl, bR, hi] at go
    simp only [bi_0, lc_lt] at go
    show _ = some (if (ceP S.2 c v (yr (S.2 72 2)) x || ceL S.2 c v (yr (S.2 72 2)) m (x + 1)) = true then 0 else 1, S)
    by_cases c1 : S.2 97 x = 1
    rotate_left
    · rw [if_neg c1] at go
      rw [show ceP S.2 c v (yr (S.2 72 2)) x = false from decide_eq_false (fun z => c1 z.1), Bool.false_or]
      exact go
    rw [if_pos c1] at go
    by_cases c2 : S.2 102 x = v
    rotate_left
    · rw [if_neg c2] at go
      rw [show ceP S.2 c v (yr (S.2 72 2)) x = false from decide_eq_false (fun z => c2 z.2.1), Bool.false_or]
      exact go
    rw [if_pos c2] at go
    by_cases c3 : S.2 101 x = -1
    rotate_left
    · rw [if_neg c3] at go
      rw [show ceP S.2 c v (yr (S.2 72 2)) x = false from decide_eq_false (fun z => c3 z.2.2.1), Bool.false_or]
      exact go
    rw [if_pos c3] at go
    by_cases c4 : uN S.2 (S.2 109 c) (S.2 98 x) = true
    rotate_left
    · rw [if_pos c4] at go
      rw [show ceP S.2 c v (yr (S.2 72 2)) x = false from decide_eq_false (fun z => c4 z.2.2.2.1), Bool.false_or]
      exact go
    rw [if_neg (fun z => z c4)] at go
    by_cases c5 : lft S.2 x (yr (S.2 72 2)) < S.2 111 c
    · rw [if_pos c5] at go
      rw [show ceP S.2 c v (yr (S.2 72 2)) x = true from decide_eq_true ⟨c1, c2, c3, c4, c5⟩, Bool.true_or, if_pos rfl]
      exact go
    · rw [if_neg c5] at go
      rw [show ceP S.2 c v (yr (S.2 72 2)) x = false from decide_eq_false (fun z => c5 z.2.2.2.2), Bool.false_or]
      exact go
theorem m_bar (H : IR S) {c v : Nat} (hc : (c : Int) < S.2 72 52) (hv : (v : Int) < S.2 72 40) : ∃ U, ev (WK L xs) (d + 8) 262 [vr 72, vi (c : Int), vi (v : Int)] S = some (barV S.2 c v, U) ∧ Wf S U := by
  have gk := H.rk
  have gv := H.rv
  have gp := H.rp
  have hn := gv.1
  have hk := gk.1
  have hcn := gv.2.2.2.1
  obtain ⟨-, r2, -, -, r5, -⟩ := gk.2.2.2.1 c hc
  obtain ⟨-, s2, -⟩ := gv.2.1 v hv
  have qc : (0 : Int) ≤ (c : Int) ∧ (c : Int) < 300 := by omega
  have qv : (0 : Int) ≤ (v : Int) ∧ (v : Int) < 80 := by omega
  have yd : idiv (S.2 72 2) 360 = yr (S.2 72 2) := rfl
  -- behind what it has
  have k101 : ∀ t : Int, ∃ U, LQ (WK L xs) (ev (WK L xs) (d + 7)) 262 101 [some (vr 72), some (vi (c : Int)), some (vi (v : Int)), none, none] [vl t] S = some (if t < S.2 111 c then 3 else if ceL S.2 c v (yr (S.2 72 2)) (S.2 72 40).toNat 0 = true then 4 else btR S.2 c v (lft S.2 v (yr (S.2 72 2))), U) ∧ Wf S U := by
    intro t
    have hce := m_ceL (L := L) (xs := xs) (d := d + 2) gk gv gp (v := v) hc (S.2 72 40).toNat 0 (by first | decide | omega)
    have h263 : ev (WK L xs) (d + 7) 263 [vr 72, vi (c : Int), vi (v : Int)] S = _ := (q_263 L xs (d + 6) S (c : Int) (v : Int)).trans hce
    rw [q_262_101, if_pos qc, Int.toNat_natCast]
    simp only [lc_lt]
    by_cases c1 : t < S.2 111 c
    · rw [if_pos c1, if_pos c1]
      exact ⟨S, rfl, Wf.rf⟩
    rw [if_neg c1, if_neg c1, h263, bR]
    by_cases c2 : ceL S.2 c v (yr (S.2 72 2)) (S.2 72 40).toNat 0 = true
    · rw [if_pos c2, if_pos c2, if_pos rfl]
      exact ⟨S, rfl, Wf.rf⟩
    rw [if_neg c2, if_neg c2, if_neg (by decide)]
    have w1 : Wf S (wr S 72 75 (c : Int)) := Wf.w72 (by first | decide | omega)
    have H1 := w1.ir H
    have w2 : Wf S (wr (wr S 72 75 (c : Int)) 72 76 (lft S.2 v (yr (S.2 72 2)))) := w1.tr (Wf.w72 (by first | decide | omega))
    have H2 := w2.ir H
    have hl := m_leftOf (L := L) (xs := xs) (d := d + 3) H1.rk H1.rv H1.rp (v := v) (by rw [w1.2.2 40 (by decide) (by decide)]; exact hv) (yr (S.2 72 2))
    rw [w1.wh.lf] at hl
    obtain ⟨U, u1, u2⟩ := m_bars (L := L) (xs := xs) (d := d + 1) H2 (c := c) (v := v) (by rw [w2.2.2 52 (by decide) (by decide)]; exact hc) (by rw [w2.2.2 40 (by decide) (by decide)]; exact hv) (by rw [wr_f, if_neg (by decide), wr_f, if_pos rfl])
    rw [wr_f, if_pos rfl, w2.wh.bt] at u1
    refine ⟨U, ?_, w2.tr u2⟩
    rw [m_year, bR, w1.2.2 2 (by decide) (by decide), yd, show ev (WK L xs) (d + 7) 246 [vr 72, vi (v : Int), vi (yr (S.2 72 2))] (wr S 72 75 (c : Int)) = _ from hl, bR, show ev (WK L xs) (d + 7) 264 [vr 72, vi (v : Int)] (wr (wr S 72 75 (c : Int)) 72 76 (lft S.2 v (yr (S.2 72 2)))) = _ from u1, bR]
  have k65 : ∃ U, LQ (WK L xs) (ev (WK L xs) (d + 7)) 262 65 [some (vr 72), some (vi (c : Int)), some (vi (v : Int)), none, none] [] S = some (if hasV S.2 c v (yr (S.2 72 2)) < S.2 111 c then 3 else if ceL S.2 c v (yr (S.2 72 2)) (S.2 72 40).toNat 0 = true then 4 else btR S.2 c v (lft S.2 v (yr (S.2 72 2))), U) ∧ Wf S U := by
    unfold hasV
    rw [q_262_65]
    simp only [if_pos qc, Int.toNat_natCast]
    by_cases c1 : S.2 112 c = -1
    · rw [if_pos c1, if_pos c1, m_year, bR, yd, m_leftOf gk gv gp hv, bR]
      exact k101 _
    · rw [if_neg c1, if_neg c1, m_year, bR, yd]
      obtain ⟨k, hkk⟩ := Int.eq_ofNat_of_zero_le (show 0 ≤ S.2 112 c by omega)
      rw [hkk, m_boundBy gk gv (by first | decide | omega), bR, Int.toNat_natCast]
      exact k101 _
  obtain ⟨U, u1, u2⟩ := k65
  have go := q_262 L xs (d + 7) S (c : Int) (v : Int)
  simp only [if_pos qc, if_pos qv, Int.toNat_natCast] at go
  rw [m_isUnder gp _ _ r2.1 r2.2 s2.1, bR, m_year, bR, yd, m_isOf gv hv, bR, u1] at go
  simp only [bi_0] at go
  unfold barV
  by_cases c1 : uN S.2 (S.2 109 c) (S.2 98 v) = true
  rotate_left
  · rw [if_pos c1] at go
    rw [if_pos (Or.inl (nf c1))]
    exact ⟨S, go, Wf.rf⟩
  rw [if_neg (fun z => z c1)] at go
  by_cases c2 : ofY S.2 v (yr (S.2 72 2)) = true
  rotate_left
  · rw [if_pos c2] at go
    rw [if_pos (Or.inr (nf c2))]
    exact ⟨S, go, Wf.rf⟩
  rw [if_neg (fun z => z c2)] at go
  rw [if_neg (fun z => z.elim (fun y => by rw [c1] at y; cases y) (fun y => by rw [c2] at y; cases y))]
  by_cases c3 : S.2 101 v = -1
  rotate_left
  · rw [if_neg c3] at go
    rw [if_pos (Or.inl c3)]
    exact ⟨S, go, Wf.rf⟩
  rw [if_pos c3] at go
  by_cases c4 : S.2 97 v = 4
  · rw [if_pos c4] at go
    by_cases c5 : S.2 102 v = -1
    · rw [if_pos c5] at go
      rw [if_neg (fun z => z.elim (fun y => y c3) (fun y => y.2 c5))]
      exact ⟨U, go, u2⟩
    · rw [if_neg c5] at go
      rw [if_pos (Or.inr ⟨c4, c5⟩)]
      exact ⟨S, go, Wf.rf⟩
  · rw [if_neg c4] at go
    rw [if_neg (fun z => z.elim (fun y => y c3) (fun y => c4 y.1))]
    exact ⟨U, go, u2⟩
theorem leV_bd (h : Nat → Nat → Int) (c : Nat) (k : Int) : ∀ (m v : Nat) (w u : Int), 0 ≤ w ∧ w ≤ 8 → leV h c k m v w = .inr u → 0 ≤ u ∧ u ≤ 8 := by
  intro m
  induction m with
  | zero =>
    intro v w u hw e
    have : w = u := Sum.inr.inj e
    omega
  | succ m ih =>
    intro v w u hw e
    unfold leV at e
    have hb := barV_bd h c v
    split at e
    · split at e
      · cases e
      · exact ih _ _ _ (by first | decide | omega) e
    · exact ih _ _ _ hw e
theorem m_letV (H : IR S) {c : Nat} (hc : (c : Int) < S.2 72 52) {k : Nat} (hk : k ≤ 4) (hk1 : k ≠ 1) : ∀ (m v : Nat) (T : AH) (w : Int), v + m = (S.2 72 40).toNat → Wf S T → ∃ U, LQ (WK L xs) (ev (WK L xs) (d + 8)) 261 12 [some (vr 72), some (vi (c : Int)), some (vi w), some (vi (k : Int)), some (vi (v : Int)), none] [] T = (match leV S.2 c k m v w with
    | .inl a => some (a, U)
    | .inr u => LQ (WK L xs) (ev (WK L xs) (d + 8)) 261 4 [some (vr 72), some (vi (c : Int)), some (vi u), some (vi ((k + 1 : Nat) : Int)), none, none] [] U) ∧ Wf S U := by
  have hn := H.rv.1
  have hkn := H.rk.1
  have hcn := H.rv.2.2.2.1
  obtain ⟨-, -, -, -, r5, -⟩ := H.rk.2.2.2.1 c hc
  have qc : (0 : Int) ≤ (c : Int) ∧ (c : Int) < 300 := by omega
  intro m
  induction m with
  | zero =>
    intro v T w hv hT
    refine ⟨T, ?_, hT⟩
    rw [q_261_12, hT.2.2 40 (by decide) (by decide), if_neg (by first | decide | omega), wj (j := k) (by first | decide | omega)]
    rfl
  | succ m ih =>
    intro v T w hv hT
    have hvl : (v : Int) < S.2 72 40 := by omega
    have qv : (0 : Int) ≤ (v : Int) ∧ (v : Int) < 80 := by omega
    have e1 : w32 ((v : Int) + 1) = ((v + 1 : Nat) : Int) := by
      rw [w32e (by first | decide | omega) (by first | decide | omega)]
      rfl
    have T97 : T.2 97 = S.2 97 := hT.2.1 97 (by decide) (by decide) (by decide) (by decide)
    have T112 : T.2 112 = S.2 112 := hT.2.1 112 (by decide) (by decide) (by decide) (by decide)
    have T124 : T.2 124 = S.2 124 := hT.2.1 124 (by decide) (by decide) (by decide) (by decide)
    have go := q_261_12 L xs (d + 8) T (c : Int) w (k : Int) (v : Int)
    rw [hT.2.2 40 (by decide) (by decide), if_pos hvl, if_pos qv, e1, if_neg (show ¬ (k : Int) = 1 by omega)] at go
    simp only [if_pos qc, Int.toNat_natCast, T97, T112, T124] at go
    have skip : ¬ (S.2 97 v = (k : Int) ∧ (S.2 112 c = -1 ∨ S.2 124 (S.2 112 c).toNat = v)) → LQ (WK L xs) (ev (WK L xs) (d + 8)) 261 12 [some (vr 72), some (vi (c : Int)), some (vi w), some (vi (k : Int)), some (vi (v : Int)), none] [] T = LQ (WK L xs) (ev (WK L xs) (d + 8)) 261 12 [some (vr 72), some (vi (c : Int)), some (vi w), some (vi (k : Int)), some (vi ((v + 1 : Nat) : Int)), none] [] T → ∃ U, LQ (WK L xs) (ev (WK L xs) (d + 8)) 261 12 [some (vr 72), some (vi (c : Int)), some (vi w), some (vi (k : Int)), some (vi (v : Int)), none] [] T = (match leV S.2 c k (m + 1) v w with
        | .inl a => some (a, U)
        | .inr u => LQ (WK L xs) (ev (WK L xs) (d + 8)) 261 4 [some (vr 72), some (vi (c : Int)), some (vi u), some (vi ((k + 1 : Nat) : Int)), none, none] [] U) ∧ Wf S U := by
      intro hN hgo
      have e : leV S.2 c k (m + 1) v w = leV S.2 c k m (v + 1) w := by
        show (if S.2 97 v = (k : Int) ∧ (S.2 112 c = -1 ∨ S.2 124 (S.2 112 c).toNat = v) then _ else _) = _
        rw [if_neg hN]
      rw [e]
      obtain ⟨V, v1, v2⟩ := ih (v + 1) T w (by first | decide | omega) hT
      exact ⟨V, hgo.trans v1, v2⟩
    by_cases c1 : S.2 97 v = (k : Int)
    rotate_left
    · rw [if_neg c1] at go
      exact skip (fun z => c1 z.1) go
    rw [if_pos c1] at go
    have take : LQ (WK L xs) (ev (WK L xs) (d + 8)) 261 12 [some (vr 72), some (vi (c : Int)), some (vi w), some (vi (k : Int)), some (vi (v : Int)), none] [] T = LQ (WK L xs) (ev (WK L xs) (d + 8)) 261 66 [some (vr 72), some (vi (c : Int)), some (vi w), some (vi (k : Int)), some (vi (v : Int)), none] [] T → (S.2 112 c = -1 ∨ S.2 124 (S.2 112 c).toNat = v) → ∃ U, LQ (WK L xs) (ev (WK L xs) (d + 8)) 261 12 [some (vr 72), some (vi (c : Int)), some (vi w), some (vi (k : Int)), some (vi (v : Int)), none] [] T = (match leV S.2 c k (m + 1) v w with
        | .inl a => some (a, U)
        | .inr u => LQ (WK L xs) (ev (WK L xs) (d + 8)) 261 4 [some (vr 72), some (vi (c : Int)), some (vi u), some (vi ((k + 1 : Nat) : Int)), none, none] [] U) ∧ Wf S U := by
      intro hgo hY
      have HT := hT.ir H
      obtain ⟨U, u1, u2⟩ := m_bar (L := L) (xs := xs) (d := d) HT (c := c) (v := v) (by rw [hT.2.2 52 (by decide) (by decide)]; exact hc) (by rw [hT.2.2 40 (by decide) (by decide)]; exact hvl)
      rw [hT.wh.bar] at u1
      have e : leV S.2 c k (m + 1) v w = if barV S.2 c v = 0 then .inl (v : Int) else leV S.2 c k m (v + 1) (max w (barV S.2 c v)) := by
        show (if S.2 97 v = (k : Int) ∧ (S.2 112 c = -1 ∨ S.2 124 (S.2 112 c).toNat = v) then _ else _) = _
        rw [if_pos ⟨c1, hY⟩]
      rw [q_261_66, u1, bR, e1] at hgo
      rw [e]
      by_cases c2 : barV S.2 c v = 0
      · rw [if_pos c2] at hgo
        rw [if_pos c2]
        exact ⟨U, hgo, hT.tr u2⟩
      rw [if_neg c2] at hgo
      rw [if_neg c2]
      by_cases c3 : w < barV S.2 c v
      · rw [if_pos c3] at hgo
        obtain ⟨V, v1, v2⟩ := ih (v + 1) U (barV S.2 c v) (by first | decide | omega) (hT.tr u2)
        rw [show max w (barV S.2 c v) = barV S.2 c v by omega]
        exact ⟨V, hgo.trans v1, v2⟩
      · rw [if_neg c3] at hgo
        obtain ⟨V, v1, v2⟩ := ih (v + 1) U w (by first | decide | omega) (hT.tr u2)
        rw [show max w (barV S.2 c v) = w by omega]
        exact ⟨V, hgo.trans v1, v2⟩
    by_cases c2 : S.2 112 c = -1
    · rw [if_pos c2] at go
      exact take go (Or.inl c2)
    rw [if_neg c2, if_pos (show 0 ≤ S.2 112 c ∧ S.2 112 c < 20 by omega)] at go
    by_cases c3 : S.2 124 (S.2 112 c).toNat = v
    · rw [if_pos c3] at go
      exact take go (Or.inr c3)
    · rw [if_neg c3] at go
      exact skip (fun z => z.2.elim c2 c3) go
theorem m_let1 (H : IR S) {c : Nat} : ∀ (m v : Nat) (T : AH) (w : Int), v + m = (S.2 72 40).toNat → Wf S T → LQ (WK L xs) (ev (WK L xs) d) 261 12 [some (vr 72), some (vi (c : Int)), some (vi w), some (vi 1), some (vi (v : Int)), none] [] T = LQ (WK L xs) (ev (WK L xs) d) 261 4 [some (vr 72), some (vi (c : Int)), some (vi w), some (vi 2), none, none] [] T := by
  have hn := H.rv.1
  intro m
  induction m with
  | zero =>
    intro v T w hv hT
    rw [q_261_12, hT.2.2 40 (by decide) (by decide), if_neg (by first | decide | omega)]
    rfl
  | succ m ih =>
    intro v T w hv hT
    have e1 : w32 ((v : Int) + 1) = ((v + 1 : Nat) : Int) := by
      rw [w32e (by first | decide | omega) (by first | decide | omega)]
      rfl
    rw [q_261_12, hT.2.2 40 (by decide) (by decide), if_pos (by first | decide | omega), if_pos (by first | decide | omega), if_pos (show (1 : Int) = 1 from rfl), e1, ih (v + 1) T w (by first | decide | omega) hT]
    split <;> rfl
theorem m_lets (H : IR S) {c : Nat} (hc : (c : Int) < S.2 72 52) : ∃ U, ev (WK L xs) (d + 9) 261 [vr 72, vi (c : Int)] S = some (ltV S.2 c, U) ∧ Wf S U := by
  have hn := H.rv.1
  have fin : ∀ (T : AH) (w : Int), (0 ≤ w ∧ w ≤ 8) → LQ (WK L xs) (ev (WK L xs) (d + 8)) 261 4 [some (vr 72), some (vi (c : Int)), some (vi w), some (vi 5), none, none] [] T = some (-10 - w, T) := fun T w hw => by
    rw [q_261_4, if_pos (by decide), w32e (by first | decide | omega) (by first | decide | omega)]
  -- one kind
  have one : ∀ (k : Nat) (r : List Int), k ≤ 4 → k ≠ 1 → (∀ (T : AH) (w : Int), (0 ≤ w ∧ w ≤ 8) → Wf S T → ∃ U, LQ (WK L xs) (ev (WK L xs) (d + 8)) 261 4 [some (vr 72), some (vi (c : Int)), some (vi w), some (vi ((k + 1 : Nat) : Int)), none, none] [] T = some (leK S.2 c r w, U) ∧ Wf S U) → ∀ (T : AH) (w : Int), (0 ≤ w ∧ w ≤ 8) → Wf S T → ∃ U, LQ (WK L xs) (ev (WK L xs) (d + 8)) 261 4 [some (vr 72), some (vi (c : Int)), some (vi w), some (vi (k : Int)), none, none] [] T = some (leK S.2 c ((k : Int) :: r) w, U) ∧ Wf S U := by
    intro k r hk hk1 hr T w hw hT
    have go := q_261_4 L xs (d + 8) T (c : Int) w (k : Int)
    rw [if_neg (by first | decide | omega)] at go
    obtain ⟨U, u1, u2⟩ := m_letV (L := L) (xs := xs) (d := d) H hc hk hk1 (S.2 72 40).toNat 0 T w (by first | decide | omega) hT
    have hb := leV_bd S.2 c (k : Int) (S.2 72 40).toNat 0 w
    show ∃ U, LQ (WK L xs) (ev (WK L xs) (d + 8)) 261 4 [some (vr 72), some (vi (c : Int)), some (vi w), some (vi (k : Int)), none, none] [] T = some ((match leV S.2 c (k : Int) (S.2 72 40).toNat 0 w with
      | .inl v => v
      | .inr u => leK S.2 c r u), U) ∧ Wf S U
    have go2 := go.trans u1
    revert go2 hb
    cases leV S.2 c (k : Int) (S.2 72 40).toNat 0 w with
    | inl a =>
      intro hb go2
      exact ⟨U, go2, u2⟩
    | inr u =>
      intro hb go2
      obtain ⟨V, v1, v2⟩ := hr U u (hb u hw rfl) u2
      exact ⟨V, go2.trans v1, v2⟩
  have s4 := one 4 [] (by decide) (by decide) (fun T w hw hT => ⟨T, fin T w hw, hT⟩)
  have s3 := one 3 [4] (by decide) (by decide) s4
  have s2 := one 2 [3, 4] (by decide) (by decide) s3
  have s1 : ∀ (T : AH) (w : Int), (0 ≤ w ∧ w ≤ 8) → Wf S T → ∃ U, LQ (WK L xs) (ev (WK L xs) (d + 8)) 261 4 [some (vr 72), some (vi (c : Int)), some (vi w), some (vi 1), none, none] [] T = some (leK S.2 c [2, 3, 4] w, U) ∧ Wf S U := by
    intro T w hw hT
    obtain ⟨U, u1, u2⟩ := s2 T w hw hT
    refine ⟨U, ?_, u2⟩
    have h1 := m_let1 (L := L) (xs := xs) (d := d + 8) H (c := c) (S.2 72 40).toNat 0 T w (by first | decide | omega) hT
    rw [q_261_4, if_neg (by decide)]
    exact h1.trans u1
  have s0 := one 0 [2, 3, 4] (by decide) (by decide) s1
  obtain ⟨U, u1, u2⟩ := s0 S 1 (by decide) Wf.rf
  exact ⟨U, (q_261 L xs (d + 8) S (c : Int)).trans u1, u2⟩
end
