/-! who lets: the class's side, and may -/
section
variable {L : Nat} {xs : Nat → Int} {d : Nat} {S S' T U W A : AH} {h : Nat → Nat → Int} {c : Nat}
theorem leV_skip {k : Int} {a : Nat} (h1 : h 112 c ≠ -1) (h2 : h 124 (h 112 c).toNat = a) (hk : h 97 a ≠ k) : ∀ (m v : Nat) (w : Int), leV h c k m v w = .inr w := by
  intro m
  induction m with
  | zero => intro v w; rfl
  | succ m ih =>
    intro v w
    unfold leV
    rw [if_neg (fun z => z.2.elim h1 (fun y => hk (by rw [h2] at y; rw [show a = v by omega]; exact z.1)))]
    exact ih _ _
theorem leV_past {k : Int} {a : Nat} (h1 : h 112 c ≠ -1) (h2 : h 124 (h 112 c).toNat = a) : ∀ (m v : Nat) (w : Int), a < v → leV h c k m v w = .inr w := by
  intro m
  induction m with
  | zero => intro v w _; rfl
  | succ m ih =>
    intro v w hv
    unfold leV
    rw [if_neg (fun z => z.2.elim h1 (fun y => by rw [h2] at y; omega))]
    exact ih _ _ (by first | decide | omega)
theorem leV_hit {k : Int} {a : Nat} (h1 : h 112 c ≠ -1) (h2 : h 124 (h 112 c).toNat = a) (hk : h 97 a = k) : ∀ (m v : Nat) (w : Int), v ≤ a → a < v + m → leV h c k m v w = if barV h c a = 0 then .inl (a : Int) else .inr (max w (barV h c a)) := by
  intro m
  induction m with
  | zero => intro v w q1 q2; omega
  | succ m ih =>
    intro v w q1 q2
    unfold leV
    by_cases e : v = a
    · subst e
      rw [if_pos ⟨hk, Or.inr h2⟩, leV_past h1 h2 _ _ _ (by first | decide | omega)]
    · rw [if_neg (fun z => z.2.elim h1 (fun y => by rw [h2] at y; omega))]
      exact ih _ _ (by first | decide | omega) (by first | decide | omega)
theorem leK_cons {k : Int} {r : List Int} {w : Int} : leK h c (k :: r) w = match leV h c k (h 72 40).toNat 0 w with
    | .inl v => v
    | .inr u => leK h c r u := rfl
theorem leK_no {a : Nat} (h1 : h 112 c ≠ -1) (h2 : h 124 (h 112 c).toNat = a) : ∀ (r : List Int) (w : Int), (∀ k, k ∈ r → h 97 a ≠ k) → leK h c r w = -10 - w := by
  intro r
  induction r with
  | nil => intro w _; rfl
  | cons k r ih =>
    intro w hr
    rw [leK_cons, leV_skip h1 h2 (hr k (List.mem_cons_self ..))]
    exact ih w (fun q hq => hr q (List.mem_cons_of_mem _ hq))
theorem ltV_con {a : Nat} (h1 : h 112 c ≠ -1) (h2 : h 124 (h 112 c).toNat = a) (hk : h 97 a = 0 ∨ h 97 a = 2 ∨ h 97 a = 3) (ha : (a : Int) < h 72 40) : ltV h c = if barV h c a = 0 then (a : Int) else -10 - barV h c a := by
  have hb := barV_bd h c a
  have hit : ∀ (k : Int) (r : List Int), h 97 a = k → (∀ q, q ∈ r → h 97 a ≠ q) → leK h c (k :: r) 1 = if barV h c a = 0 then (a : Int) else -10 - barV h c a := by
    intro k r e hr
    rw [leK_cons, leV_hit h1 h2 e _ _ _ (by first | decide | omega) (by first | decide | omega)]
    by_cases z : barV h c a = 0
    · rw [if_pos z, if_pos z]
    · rw [if_neg z, if_neg z, show max 1 (barV h c a) = barV h c a by omega]
      exact leK_no h1 h2 r _ hr
  have miss : ∀ (k : Int) (r : List Int), h 97 a ≠ k → leK h c (k :: r) 1 = leK h c r 1 := by
    intro k r e
    rw [leK_cons, leV_skip h1 h2 e]
  unfold ltV
  rcases hk with e | e | e
  · exact hit 0 _ e (fun q hq => by
      rw [e]
      intro z
      rw [← z] at hq
      exact absurd hq (by decide))
  · rw [miss 0 _ (by first | decide | omega)]
    exact hit 2 _ e (fun q hq => by
      rw [e]
      intro z
      rw [← z] at hq
      exact absurd hq (by decide))
  · rw [miss 0 _ (by first | decide | omega), miss 2 _ (by first | decide | omega)]
    exact hit 3 _ e (fun q hq => by
      rw [e]
      intro z
      rw [← z] at hq
      exact absurd hq (by decide))
noncomputable def askK (i : Nat) : Int := [0, 2, 3, 4].getD i 0
theorem x_askK {i : Nat} (hi : i < 4) : rdv (WK L xs) S 2 i = askK i := by
  have : i = 0 ∨ i = 1 ∨ i = 2 ∨ i = 3 := by omega
  rcases this with rfl | rfl | rfl | rfl <;> rfl
theorem askK_1 {i : Nat} (hi : i < 4) : askK i ≠ 1 := by
  have : i = 0 ∨ i = 1 ∨ i = 2 ∨ i = 3 := by omega
  rcases this with rfl | rfl | rfl | rfl <;> decide
theorem x_letV (H : Inv S) (hc : (c : Int) < S.2 72 52) (h1 : S.2 112 c = -1) {i : Nat} (hi : i < 4) : ∀ (m v : Nat) (T : AH) (w : Int), v + m = (S.2 72 40).toNat → Tld S T c → ∃ U, LQ (WK L xs) (ev (WK L xs) (d + 71)) 28 79 [some (vr 15), some (vr (clA S c)), some (vi w), some (vi (i : Int)), some (vi (v : Int)), none, none] [] T = (match leV S.2 c (askK i) m v w with
    | .inl a => some (a, U)
    | .inr u => LQ (WK L xs) (ev (WK L xs) (d + 71)) 28 68 [some (vr 15), some (vr (clA S c)), some (vi u), some (vi ((i + 1 : Nat) : Int)), none, none, none] [] U) ∧ Tld S U c := by
  have hn := H.gv.1.1
  intro m
  induction m with
  | zero =>
    intro v T w hv hT
    refine ⟨T, ?_, hT⟩
    rw [q_28_79, hT.hi 36 (by decide), H.gv.2.1, if_neg (by first | decide | omega), wj (j := i) (by first | decide | omega)]
    rfl
  | succ m ih =>
    intro v T w hv hT
    have hvl : (v : Int) < S.2 72 40 := by omega
    have e1 : w32 ((v : Int) + 1) = ((v + 1 : Nat) : Int) := by
      rw [w32e (by first | decide | omega) (by first | decide | omega)]
      rfl
    have HT := hT.inv H
    have T72 : T.2 72 = S.2 72 := hT.hi 72 (by decide)
    have hvT : (v : Int) < T.2 72 40 := by rw [T72]; exact hvl
    have eAu : auA T v = auA S v := by unfold auA; rw [hT.hi 37 (by decide)]
    have eCl : clA T c = clA S c := by unfold clA; rw [hT.hi 44 (by decide)]
    obtain ⟨a1, a2, a3, -⟩ := HT.gv.2.2.2.1 v hvT
    rw [eAu] at a1 a3
    have h5 := a1.1
    have T97 : T.2 97 = S.2 97 := hT.hi 97 (by decide)
    have hau := x_au (L := L) (xs := xs) (d := d + 70) HT.gv hvT
    rw [eAu] at hau
    have go := q_28_79 L xs (d + 71) T (clA S c) w (i : Int) (v : Int)
    rw [HT.gv.2.1, if_pos hvT, show ev (WK L xs) (d + 71) 168 [vr 36, vi (v : Int)] T = _ from hau, bR, Int.toNat_natCast, if_neg (by first | decide | omega), g14a a1, k11 a1, if_pos (show (0 : Int) ≤ (i : Int) ∧ (i : Int) < 4 by omega), Int.toNat_natCast, rdvD h5, a3, x_askK hi, T97, e1] at go
    by_cases c1 : S.2 97 v = askK i
    rotate_left
    · have e : leV S.2 c (askK i) (m + 1) v w = leV S.2 c (askK i) m (v + 1) w := by
        show (if S.2 97 v = askK i ∧ (S.2 112 c = -1 ∨ S.2 124 (S.2 112 c).toNat = v) then _ else _) = _
        rw [if_neg (fun z => c1 z.1)]
      rw [if_neg c1] at go
      rw [e]
      obtain ⟨V, v1, v2⟩ := ih (v + 1) T w (by first | decide | omega) hT
      exact ⟨V, go.trans v1, v2⟩
    rw [if_pos c1] at go
    have hk1 := askK_1 hi
    obtain ⟨U, u1, u2⟩ := x_bar (L := L) (xs := xs) (d := d) HT hT.re (c := c) (v := v) (by rw [T72]; exact hc) hvT (by rw [T97, c1]; exact hk1)
    rw [eCl, eAu, hT.wh.bar] at u1
    have u3 := hT.tr u2
    have e : leV S.2 c (askK i) (m + 1) v w = if barV S.2 c v = 0 then .inl (v : Int) else leV S.2 c (askK i) m (v + 1) (max w (barV S.2 c v)) := by
      show (if S.2 97 v = askK i ∧ (S.2 112 c = -1 ∨ S.2 124 (S.2 112 c).toNat = v) then _ else _) = _
      rw [if_pos ⟨c1, Or.inl h1⟩]
    rw [u1, bR] at go
    rw [e]
    by_cases c2 : barV S.2 c v = 0
    · rw [if_pos c2] at go
      rw [if_pos c2]
      exact ⟨U, go, u3⟩
    · rw [if_neg c2] at go
      rw [if_neg c2]
      obtain ⟨V, v1, v2⟩ := ih (v + 1) U (max w (barV S.2 c v)) (by first | decide | omega) u3
      exact ⟨V, go.trans v1, v2⟩
theorem x_who (H : Inv S) (hc : (c : Int) < S.2 72 52) : ∃ U, ev (WK L xs) (d + 72) 28 [vr 15, vr (clA S c)] S = some (ltV S.2 c, U) ∧ Tld S U c := by
  have gv := H.gv
  have gk := H.gk
  have hn := gv.1.1
  obtain ⟨-, -, -, -, r5, -⟩ := gk.1.2.2.2.1 c hc
  obtain ⟨b1, b2, b3, b4, b5, b6, -⟩ := gk.2.2.2.2.1 c hc
  obtain ⟨A, p1, p2⟩ := x_weigh (L := L) (xs := xs) (d := d + 67) H.gl (S.2 72 2)
  obtain ⟨T, t1, t2⟩ := x_tell (L := L) (xs := xs) (d := d + 66) H p2 hc
  have HT := t2.inv H
  have b1T : isO T (clA S c) 12 15 := b1.eq t2.1
  have eT : T.2 (clA S c) = S.2 (clA S c) := t2.hi _ (by have := b1.1; omega)
  have go := q_28 L xs (d + 71) S (clA S c)
  rw [H.gt.1, show ev (WK L xs) (d + 71) 104 [vr 31, vi (S.2 72 2)] S = some (0, A) from p1, bR, show ev (WK L xs) (d + 71) 29 [vr 15, vr (clA S c)] A = some (0, T) from t1, bR] at go
  simp only [k12 b1T, rdvD b1.1, eT, b6] at go
  by_cases c1 : S.2 112 c = -1
  · rw [if_pos c1] at go
    -- one kind
    have one : ∀ (i : Nat) (r : List Int), i < 4 → (∀ (T : AH) (w : Int), (0 ≤ w ∧ w ≤ 8) → Tld S T c → ∃ U, LQ (WK L xs) (ev (WK L xs) (d + 71)) 28 68 [some (vr 15), some (vr (clA S c)), some (vi w), some (vi ((i + 1 : Nat) : Int)), none, none, none] [] T = some (leK S.2 c r w, U) ∧ Tld S U c) → ∀ (T : AH) (w : Int), (0 ≤ w ∧ w ≤ 8) → Tld S T c → ∃ U, LQ (WK L xs) (ev (WK L xs) (d + 71)) 28 68 [some (vr 15), some (vr (clA S c)), some (vi w), some (vi (i : Int)), none, none, none] [] T = some (leK S.2 c (askK i :: r) w, U) ∧ Tld S U c := by
      intro i r hi hr T w hw hT
      have go := q_28_68 L xs (d + 71) T (clA S c) w (i : Int)
      rw [if_pos (by first | decide | omega)] at go
      obtain ⟨U, u1, u2⟩ := x_letV (L := L) (xs := xs) (d := d) H hc c1 hi (S.2 72 40).toNat 0 T w (by first | decide | omega) hT
      have hb := leV_bd S.2 c (askK i) (S.2 72 40).toNat 0 w
      rw [leK_cons]
      have go2 := go.trans u1
      revert go2 hb
      cases leV S.2 c (askK i) (S.2 72 40).toNat 0 w with
      | inl a =>
        intro hb go2
        exact ⟨U, go2, u2⟩
      | inr u =>
        intro hb go2
        obtain ⟨V, v1, v2⟩ := hr U u (hb u hw rfl) u2
        exact ⟨V, go2.trans v1, v2⟩
    have s4 := one 3 [] (by decide) (fun T w hw hT => ⟨T, by
      rw [q_28_68, if_neg (by decide), w32e (x := -10 - w) (by first | decide | omega) (by first | decide | omega)]
      rfl, hT⟩)
    have s3 := one 2 [4] (by decide) s4
    have s2 := one 1 [3, 4] (by decide) s3
    have s1 := one 0 [2, 3, 4] (by decide) s2
    obtain ⟨U, u1, u2⟩ := s1 T 1 (by decide) t2
    exact ⟨U, go.trans u1, u2⟩
  · obtain ⟨k, hk⟩ := Int.eq_ofNat_of_zero_le (show 0 ≤ S.2 112 c by omega)
    have hkc : (k : Int) < S.2 72 70 := by omega
    have hcn := gv.1.2.2.2.1
    obtain ⟨⟨k1, k2, k3, k4⟩, -⟩ := gv.1.2.2.2.2 k hkc
    obtain ⟨m1, -⟩ := gv.2.2.2.2.2.1 k hkc
    obtain ⟨a, ha⟩ := Int.eq_ofNat_of_zero_le k1
    rw [ha] at k2 k3 k4 m1
    rw [Int.toNat_natCast] at k3 k4
    have haT : (a : Int) < T.2 72 40 := by rw [t2.hi 72 (by decide)]; exact k2
    have eAu : auA T a = auA S a := by unfold auA; rw [t2.hi 37 (by decide)]
    have eCl : clA T c = clA S c := by unfold clA; rw [t2.hi 44 (by decide)]
    have hau := x_au (L := L) (xs := xs) (d := d + 70) HT.gv haT
    obtain ⟨U, u1, u2⟩ := x_bar (L := L) (xs := xs) (d := d) HT t2.re (c := c) (v := a) (by rw [t2.hi 72 (by decide)]; exact hc) haT (by rw [t2.hi 97 (by decide)]; exact k3)
    rw [eCl, t2.wh.bar] at u1
    have hb := barV_bd S.2 c a
    have rk := (gv.1.2.1 a k2).1
    have hlt := ltV_con (h := S.2) (c := c) c1 (a := a) (by rw [hk, Int.toNat_natCast]; exact ha) (by first | decide | omega) k2
    have h176 : ev (WK L xs) (d + 71) 176 [vr 36, vi (k : Int)] T = some ((a : Int), T) := by
      rw [q_176, x_isCon HT.gv, bR, bi_T (by rw [t2.hi 72 (by decide)]; omega), if_neg (by decide), if_pos (by first | decide | omega), Int.toNat_natCast, t2.hi 38 (by decide), m1]
    rw [if_neg c1, hk, h176, bR, show ev (WK L xs) (d + 71) 168 [vr 36, vi (a : Int)] T = _ from hau, bR, Int.toNat_natCast, u1, bR] at go
    rw [hlt]
    by_cases z : barV S.2 c a = 0
    · rw [if_pos z] at go
      rw [if_pos z]
      exact ⟨U, go, t2.tr u2⟩
    · rw [if_neg z, w32e (x := -10 - barV S.2 c a) (by first | decide | omega) (by first | decide | omega)] at go
      rw [if_neg z]
      exact ⟨U, go, t2.tr u2⟩
theorem o_may (H : Inv S) (p : Int) : Ok L xs 27 260 [vi p] S := by
  have gk := H.gk
  have hn := gk.n
  by_cases hp : 0 ≤ p ∧ p < S.2 72 52
  rotate_left
  · refine Ok.same (r := -1) H ?_ ?_
    · rw [q_27, x_cl0 gk hp, bR, if_pos (by decide)]
    · rw [q_260, m_isClaim gk.1, bR]
      simp only [bi_0]
      rw [if_pos hp]
  obtain ⟨c, hc⟩ := Int.eq_ofNat_of_zero_le hp.1
  subst hc
  have ho := gk.ob hp.2
  have h5 := ho.1
  obtain ⟨a1, a2, a3, a4, a5, a6, a7, a8, a9, -⟩ := gk.2.2.2.2.1 c hp.2
  have qc : (0 : Int) ≤ (c : Int) ∧ (c : Int) < 300 := by omega
  by_cases hd : S.2 115 c = -1
  rotate_left
  · refine Ok.same (r := -1) H ?_ ?_
    · rw [q_27, x_cl gk hp.2, bR, Int.toNat_natCast, if_neg (by first | decide | omega), g14 ho, k12a ho, x_isPaid ho, bR, a9]
      simp only [bi_0]
      rw [if_neg (fun z => z hd)]
    · rw [q_260, m_isClaim gk.1, bR]
      simp only [bi_0]
      rw [if_neg (fun z => z hp), if_pos qc, Int.toNat_natCast, if_neg hd]
  obtain ⟨U, u1, u2⟩ := x_who (L := L) (xs := xs) (d := 127) H hp.2
  have HU := u2.inv H
  obtain ⟨V, v1, v2⟩ := m_lets (L := L) (xs := xs) (d := 190) HU.ir (c := c) (by rw [u2.hi 72 (by decide)]; exact hp.2)
  rw [u2.wh.lt] at v1
  refine ⟨ltV S.2 c, U, V, ?_, ?_, v2.inv HU, ?_⟩
  · rw [q_27, x_cl gk hp.2, bR, Int.toNat_natCast, if_neg (by first | decide | omega), g14 ho, k12a ho, x_isPaid ho, bR, a9]
    simp only [bi_0]
    rw [if_pos (fun z => z hd), show ev (WK L xs) 199 28 [vr 15, vr (clA S c)] S = _ from u1, bR]
  · rw [q_260, m_isClaim HU.gk.1, bR]
    simp only [bi_0]
    rw [if_neg (fun z => z (by rw [u2.hi 72 (by decide)]; exact hp)), if_pos qc, Int.toNat_natCast, u2.hi 115 (by decide), if_pos hd, show ev (WK L xs) 199 261 [vr 72, vi (c : Int)] U = _ from v1, bR]
  · exact Gw.of (v2.1.trans u2.1)
end
