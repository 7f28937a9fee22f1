/-! the reference reckons a clause -/
/-- the bar of a rule -/
noncomputable def brK (rk td lt nm : Int) (o : Option Int) : Int := match o with
  | none => 8
  | some v => if lt = 111 then (if v = 1 then 0 else 5) else if v = 0 then 0 else if lt = 110 then 5 else if lt = 115 then (if rk < nm then 6 else 0) else (if td = 0 then 7 else 0)
section
variable {L : Nat} {xs : Nat → Int} {d : Nat} {S S' T U W : AH} {h h' : Nat → Nat → Int}
theorem rkF_fr (e : h' 76 = h 76) (sg : Nat) : ∀ k, rkF h' sg k = rkF h sg k := by
  intro k
  induction k with
  | zero => rfl
  | succ k ih =>
    show (if sg.testBit k then max (rkF h' sg k) (h' 76 k) else rkF h' sg k) = (if sg.testBit k then max (rkF h sg k) (h 76 k) else rkF h sg k)
    rw [ih, e]
theorem leC_fr (hc : ∀ a, a ≠ 72 → a ≠ 96 → a ≠ 128 → a ≠ 129 → 72 ≤ a → a < 151 → h' a = h a) (h72 : ∀ k, k ≠ 75 → k ≠ 76 → h' 72 k = h 72 k) (c : Nat) (l : Int) : leC h' c l = leC h c l ∧ udC h' c = udC h c ∧ rkC h' c = rkC h c := by
  have C : ∀ a, (73 ≤ a ∧ a ≤ 95) ∨ (97 ≤ a ∧ a ≤ 127) → h' a = h a := fun a q => hc a (by first | decide | omega) (by first | decide | omega) (by first | decide | omega) (by first | decide | omega) (by first | decide | omega) (by first | decide | omega)
  have e1 : rkC h' c = rkC h c := by
    unfold rkC
    rw [C 114 (by first | decide | omega), h72 5 (by decide) (by decide)]
    exact rkF_fr (C 76 (by first | decide | omega)) _ _
  have e2 : pdH h' c = pdH h c := by
    unfold pdH nClaims
    rw [h72 52 (by decide) (by decide)]
    refine sm_congr (fun x _ => ?_)
    unfold pdT
    rw [pin_fr (h := h) (h' := h') (C 115 (by first | decide | omega)), C 108 (by first | decide | omega), h72 2 (by decide) (by decide)]
  refine ⟨?_, ?_, e1⟩
  · funext x
    unfold leC
    rw [e1, e2, C 111 (by first | decide | omega), C 109 (by first | decide | omega), C 110 (by first | decide | omega), h72 2 (by decide) (by decide)]
  · funext N
    unfold udC uN
    rw [C 74 (by first | decide | omega), C 109 (by first | decide | omega), h72 4 (by decide) (by decide)]
theorem Vf.le (hv : Vf S T) (c : Nat) (l : Int) : leC T.2 c l = leC S.2 c l ∧ udC T.2 c = udC S.2 c ∧ rkC T.2 c = rkC S.2 c := leC_fr (fun a _ _ q1 q2 _ _ => hv.2 a q1 q2) (fun k _ _ => by rw [hv.2 72 (by decide) (by decide)]) c l
theorem Vf.rp (hv : Vf S T) (hR : RP S.2) : RP T.2 := hR.fr (by rw [hv.2 72 (by decide) (by decide)]) (by rw [hv.2 72 (by decide) (by decide)]) (fun a q => hv.2 a (by first | decide | omega) (by first | decide | omega))
theorem Vf.rk (hv : Vf S T) (hK : RK S.2) : RK T.2 := hK.fr2 (fun a q => hv.2 a (by first | decide | omega) (by first | decide | omega)) (fun k _ => by rw [hv.2 72 (by decide) (by decide)]) (by unfold HM; rw [hv.2 72 (by decide) (by decide)]; omega)
theorem ar_q2 {i g en : Nat} (h : i + (g + 1) ≤ en) (h2 : (en : Int) ≤ 20000) : ((0 : Int) ≤ (i : Int) ∧ (i : Int) < 20000) ∧ (i : Int) < (en : Int) ∧ i + 1 + g ≤ en := by omega
theorem ar_74 {s s1 g : Nat} (h : s + (g + 1) ≤ 220) (h2 : s1 ≤ s + 1) : s1 + g ≤ 220 := by omega
theorem ar_nn {s g : Nat} (h : s + (g + 1) ≤ 220) : (0 : Int) ≤ (s : Int) ∧ (s : Int) < 220 := by omega
theorem ar_n1 {s g : Nat} (h : s + (g + 1) ≤ 220) : w32 ((s : Int) + 1) = ((s + 1 : Nat) : Int) := by
  rw [w32e (by first | decide | omega) (by first | decide | omega)]
  rfl
theorem ar_i1 {i g en : Nat} (h : i + (g + 1) ≤ en) (h2 : (en : Int) ≤ 20000) : w32 ((i : Int) + 1) = ((i + 1 : Nat) : Int) := by
  rw [w32e (by first | decide | omega) (by first | decide | omega)]
  rfl
theorem ar_0g {fr g : Nat} (h2 : fr + g ≤ 200) : 0 + g ≤ 220 := by omega
theorem m_holdL (hR : RP S.2) (hK : RK S.2) {c : Nat} (hc : (c : Int) < S.2 72 52) (h75 : S.2 72 75 = c) {k en : Nat} (hk : k < 1600) {x3 : Int} (hE : w32 (x3 + S.2 83 k) = (en : Int)) (hen : (en : Int) ≤ 20000) : ∀ (g : CD) (i : Nat) (T : AH) (s s' : List (Option Int)), i + g.length ≤ en → (∀ (j : Nat) (q : Int × Int), g[j]? = some q → S.2 84 (i + j) = q.1 ∧ S.2 85 (i + j) = q.2) → Vf S T → Stk T s → s.length + g.length ≤ 220 → rnA (leC S.2 c (S.2 72 76)) (udC S.2 c) g s = some s' → ∃ U, LQ (WK L xs) (ev (WK L xs) (d + 3)) 266 21 [some (vr 72), some (vi (k : Int)), some (vi (s.length : Int)), some (vi x3), some (vi (i : Int))] [] T = LQ (WK L xs) (ev (WK L xs) (d + 3)) 266 21 [some (vr 72), some (vi (k : Int)), some (vi (s'.length : Int)), some (vi x3), some (vi ((i + g.length : Nat) : Int))] [] U ∧ Vf S U ∧ Stk U s' := by
  intro g
  induction g with
  | nil =>
    intro i T s s' _ _ hv hs _ hr
    have : s = s' := Option.some.inj hr
    subst this
    exact ⟨T, rfl, hv, hs⟩
  | cons z g ih =>
    obtain ⟨cc, aa⟩ := z
    intro i T s s' hi hcd hv hs hl hr
    rw [List.length_cons] at hi hl
    have h300 := hK.1.2
    obtain ⟨z1, z2⟩ := hcd 0 (cc, aa) rfl
    rw [Nat.add_zero] at z1 z2
    have hcd' : ∀ (j : Nat) (q : Int × Int), g[j]? = some q → S.2 84 (i + 1 + j) = q.1 ∧ S.2 85 (i + 1 + j) = q.2 := fun j q hq => by
      have := hcd (j + 1) q hq
      rw [show i + (j + 1) = i + 1 + j by omega] at this
      exact this
    have T84 : T.2 84 i = cc := by rw [hv.2 84 (by decide) (by decide), z1]
    have T85 : T.2 85 i = aa := by rw [hv.2 85 (by decide) (by decide), z2]
    have T83 : w32 (x3 + T.2 83 k) = (en : Int) := by rw [hv.2 83 (by decide) (by decide), hE]
    have T72 : T.2 72 = S.2 72 := hv.2 72 (by decide) (by decide)
    have e1 : w32 ((i : Int) + 1) = ((i + 1 : Nat) : Int) := ar_i1 hi hen
    have q1 : (0 : Int) ≤ (k : Int) ∧ (k : Int) < 1600 := by omega
    have q2 : (0 : Int) ≤ (i : Int) ∧ (i : Int) < 20000 := (ar_q2 hi hen).1
    have el : i + (g.length + 1) = i + 1 + g.length := by omega
    rw [List.length_cons, el]
    change (match stA (leC S.2 c (S.2 72 76)) (udC S.2 c) cc aa s with
      | none => none
      | some s1 => rnA (leC S.2 c (S.2 72 76)) (udC S.2 c) g s1) = some s' at hr
    -- what one step must give
    have next : ∀ (s1 : List (Option Int)) (U : AH), stA (leC S.2 c (S.2 72 76)) (udC S.2 c) cc aa s = some s1 → Vf S U → Stk U s1 → s1.length ≤ s.length + 1 → LQ (WK L xs) (ev (WK L xs) (d + 3)) 266 21 [some (vr 72), some (vi (k : Int)), some (vi (s.length : Int)), some (vi x3), some (vi (i : Int))] [] T = LQ (WK L xs) (ev (WK L xs) (d + 3)) 266 21 [some (vr 72), some (vi (k : Int)), some (vi (s1.length : Int)), some (vi x3), some (vi ((i + 1 : Nat) : Int))] [] U → ∃ U, LQ (WK L xs) (ev (WK L xs) (d + 3)) 266 21 [some (vr 72), some (vi (k : Int)), some (vi (s.length : Int)), some (vi x3), some (vi (i : Int))] [] T = LQ (WK L xs) (ev (WK L xs) (d + 3)) 266 21 [some (vr 72), some (vi (k : Int)), some (vi (s'.length : Int)), some (vi x3), some (vi ((i + 1 + g.length : Nat) : Int))] [] U ∧ Vf S U ∧ Stk U s' := by
      intro s1 U hst hvU hsU hlen he
      rw [hst] at hr
      obtain ⟨V, v1, v2, v3⟩ := ih (i + 1) U s1 s' (ar_q2 hi hen).2.2 hcd' hvU hsU (ar_74 hl hlen) hr
      exact ⟨V, he.trans v1, v2, v3⟩
    have go := q_266_21 L xs (d + 3) T (k : Int) (s.length : Int) x3 (i : Int)
    rw [if_pos q1, Int.toNat_natCast, Int.toNat_natCast, T83, if_pos (show (i : Int) < (en : Int) from (ar_q2 hi hen).2.1), if_pos q2, T84, T85, e1] at go
    unfold stA at next hr
    by_cases c1 : 3 < cc
    · rw [if_pos c1, if_pos q2] at go
      rw [if_pos c1] at next hr
      match s, hs, hl, next, hr, go with
      | [], _, _, _, hr, _ => cases hr
      | [_], _, _, _, hr, _ => cases hr
      | b :: a :: r, hs, hl, next, hr, go =>
        obtain ⟨U, u1, u2, u3⟩ := m_does (L := L) (xs := xs) (d := d + 1) hs (by rw [List.length_cons, List.length_cons] at hl; omega) cc
        refine next _ U rfl (hv.tr u2) u3 (by rw [List.length_cons, List.length_cons, List.length_cons]; omega) ?_
        rw [List.length_cons, List.length_cons] at go hl ⊢
        rw [show ev (WK L xs) (d + 3) 267 [vr 72, vi cc, vi ((r.length + 1 + 1 : Nat) : Int)] T = some (0, U) from u1, bR, w32e (x := ((r.length + 1 + 1 : Nat) : Int) + -1) (by first | decide | omega) (by first | decide | omega), show ((r.length + 1 + 1 : Nat) : Int) + -1 = ((r.length + 1 : Nat) : Int) by omega] at go
        exact go
    rw [if_neg c1, if_pos q2] at go
    rw [if_neg c1] at next hr
    by_cases c3 : cc = 3
    · rw [if_pos c3] at go
      rw [if_pos c3] at next hr
      match s, hs, hl, next, hr, go with
      | [], _, _, _, hr, _ => cases hr
      | x :: r, hs, hl, next, hr, go =>
        rw [List.length_cons] at go hl
        have e0 : w32 (((r.length + 1 : Nat) : Int) - 1) = (r.length : Int) := by
          rw [w32e (by first | decide | omega) (by first | decide | omega)]
          omega
        have q3 : (0 : Int) ≤ (r.length : Int) ∧ (r.length : Int) < 220 := by omega
        rw [e0, if_pos q3, if_pos q3, Int.toNat_natCast] at go
        refine next _ (wr T 128 r.length (w64 (1 - T.2 128 r.length))) rfl (hv.tr (Vf.w (by first | decide | omega))) (hs.tail.push (fun j hj => ?_) (fun e => ?_) (fun v e => ?_)) (by rw [List.length_cons, List.length_cons]; omega) ?_
        · rw [wr_f, if_neg (by first | decide | omega), wr_c (by decide)]
          exact ⟨rfl, rfl⟩
        · rw [wr_c (by decide)]
          cases x with
          | none => exact hs.top.1 rfl
          | some y => cases e
        · rw [wr_c (by decide), wr_f, if_pos rfl]
          cases x with
          | none => cases e
          | some y =>
            obtain ⟨t1, t2⟩ := hs.top.2 y rfl
            rw [t2]
            exact ⟨t1, Option.some.inj e⟩
        · rw [List.length_cons, List.length_cons]
          exact go
    rw [if_neg c3] at go
    rw [if_neg c3] at next hr
    have qn : (0 : Int) ≤ (s.length : Int) ∧ (s.length : Int) < 220 := ar_nn hl
    have en1 : w32 ((s.length : Int) + 1) = ((s.length + 1 : Nat) : Int) := ar_n1 hl
    rw [if_pos qn, if_pos q2, Int.toNat_natCast, en1, if_pos q2, if_pos qn] at go
    have vW : Vf T (wr T 129 s.length 0) := Vf.w (by first | decide | omega)
    have psh : ∀ v : Int, Stk (wr (wr T 129 s.length 0) 128 s.length v) (some v :: s) := fun v => hs.push (fun j hj => by
        rw [wr_f, if_neg (Nat.ne_of_lt hj), wr_c (by decide), wr_c (by decide), wr_f, if_neg (Nat.ne_of_lt hj)]
        exact ⟨rfl, rfl⟩) (fun e => by cases e) (fun w e => by
        rw [wr_c (by decide), wr_f, if_pos rfl, wr_f, if_pos rfl]
        exact ⟨rfl, Option.some.inj e⟩)
    by_cases c0 : cc = 0
    · rw [if_pos c0] at go
      rw [if_pos c0] at next
      exact next _ _ rfl (hv.tr (vW.tr (Vf.w (by first | decide | omega)))) (psh aa) (by rw [List.length_cons]; exact Nat.le_refl _) go
    rw [if_neg c0, if_pos q2] at go
    rw [if_neg c0] at next hr
    by_cases cl : cc = 1
    · rw [if_pos cl, if_pos q2] at go
      rw [if_pos cl] at next
      have hvW := hv.tr vW
      have hlt := m_letter (L := L) (xs := xs) (d := d + 1) (S := wr T 129 s.length 0) (hvW.rp hR) (hvW.rk hK) (c := c) (by rw [hvW.2 72 (by decide) (by decide)]; exact hc) (by rw [hvW.2 72 (by decide) (by decide)]; exact h75) aa
      rw [(hvW.le c _).1, hvW.2 72 (by decide) (by decide)] at hlt
      rw [show ev (WK L xs) (d + 3) 269 [vr 72, vi aa] (wr T 129 s.length 0) = some (leC S.2 c (S.2 72 76) aa, wr T 129 s.length 0) from hlt, bR, if_pos qn] at go
      exact next _ _ rfl (hv.tr (vW.tr (Vf.w (by first | decide | omega)))) (psh _) (by rw [List.length_cons]; exact Nat.le_refl _) go
    rw [if_neg cl, if_pos q2] at go
    rw [if_neg cl] at next hr
    by_cases ca : 0 ≤ aa
    rotate_left
    · rw [if_neg ca] at hr
      cases hr
    rw [if_pos ca] at next
    rw [T72, h75, if_pos (show (0 : Int) ≤ (c : Int) ∧ (c : Int) < 300 by omega), if_pos q2, Int.toNat_natCast] at go
    obtain ⟨-, r2, -⟩ := hK.2.2.2.1 c hc
    by_cases ch : aa < S.2 72 4
    · have hvW := hv.tr vW
      have hun := m_isUnder (L := L) (xs := xs) (d := d + 2) (S := wr T 129 s.length 0) (hvW.rp hR) (S.2 109 c) aa r2.1 (by rw [hvW.2 72 (by decide) (by decide)]; exact r2.2) ca
      have eu : uN (wr T 129 s.length 0).2 = uN S.2 := by
        funext x y
        unfold uN
        rw [hvW.2 74 (by decide) (by decide)]
      rw [eu] at hun
      have eud : udC S.2 c aa = uN S.2 (S.2 109 c) aa := by
        unfold udC
        rw [decide_eq_true ch, Bool.true_and]
      rw [if_pos ch, hv.2 109 (by decide) (by decide), hun, bR] at go
      simp only [bi_0] at go
      by_cases cu : uN S.2 (S.2 109 c) aa = true
      · rw [if_neg (fun z => z cu), if_pos qn] at go
        rw [eud, if_pos cu] at next
        exact next _ _ rfl (hv.tr (vW.tr (Vf.w (by first | decide | omega)))) (psh 1) (by rw [List.length_cons]; exact Nat.le_refl _) go
      · rw [if_pos cu, if_pos qn] at go
        rw [eud, if_neg cu] at next
        exact next _ _ rfl (hv.tr (vW.tr (Vf.w (by first | decide | omega)))) (psh 0) (by rw [List.length_cons]; exact Nat.le_refl _) go
    · have eud : udC S.2 c aa = false := by
        unfold udC
        rw [decide_eq_false ch, Bool.false_and]
      rw [if_neg ch, if_pos qn] at go
      rw [eud, if_neg (by decide)] at next
      exact next _ _ rfl (hv.tr (vW.tr (Vf.w (by first | decide | omega)))) (psh 0) (by rw [List.length_cons]; exact Nat.le_refl _) go
theorem ar_ee {tt fr gl : Nat} (h : tt < 100) (h2 : fr + gl ≤ 200) : w32 (((200 * tt : Nat) : Int) + ((fr + gl : Nat) : Int)) = ((200 * tt + fr + gl : Nat) : Int) := by
  rw [w32e (by first | decide | omega) (by first | decide | omega)]
  omega
theorem ar_en {tt fr gl : Nat} (h : tt < 100) (h2 : fr + gl ≤ 200) : ((200 * tt + fr + gl : Nat) : Int) ≤ 20000 := by omega
theorem m_holds (hR : RP S.2) (hK : RK S.2) {c : Nat} (hc : (c : Int) < S.2 72 52) (h75 : S.2 72 75 = c) {tt j fr : Nat} (ht : tt < 100) (hj : j < 16) {g : CD} (h82 : S.2 82 (16 * tt + j) = fr) (h83 : S.2 83 (16 * tt + j) = ((fr + g.length : Nat) : Int)) (h200 : fr + g.length ≤ 200) (hcd : ∀ (i : Nat) (q : Int × Int), g[i]? = some q → S.2 84 (200 * tt + fr + i) = q.1 ∧ S.2 85 (200 * tt + fr + i) = q.2) {o : Option Int} (hg : Cmp (leC S.2 c (S.2 72 76)) (udC S.2 c) g o) : ∃ U, ev (WK L xs) (d + 4) 266 [vr 72, vi ((16 * tt + j : Nat) : Int)] S = some (match o with
    | none => 2
    | some v => i32 v, U) ∧ Vf S U := by
  have e16 : idiv ((16 * tt + j : Nat) : Int) 16 = (tt : Int) := by
    unfold idiv
    rw [Int.tdiv_eq_ediv_of_nonneg (by first | decide | omega), w32e (by first | decide | omega) (by first | decide | omega)]
    omega
  have eb : w32 ((tt : Int) * 200) = ((200 * tt : Nat) : Int) := by
    rw [w32e (by first | decide | omega) (by first | decide | omega)]
    omega
  have ef : w32 (((200 * tt : Nat) : Int) + (fr : Int)) = ((200 * tt + fr : Nat) : Int) := by
    rw [w32e (by first | decide | omega) (by first | decide | omega)]
    omega
  have ee : w32 (((200 * tt : Nat) : Int) + S.2 83 (16 * tt + j)) = ((200 * tt + fr + g.length : Nat) : Int) := by
    rw [h83]
    exact ar_ee ht h200
  obtain ⟨U, u1, u2, u3⟩ := m_holdL (L := L) (xs := xs) (d := d) hR hK hc h75 (k := 16 * tt + j) (by first | decide | omega) ee (ar_en ht h200) g (200 * tt + fr) S [] [o] (Nat.le_refl _) hcd Vf.rf (fun i o h => by simp at h) (ar_0g h200) (hg [])
  have U83 : w32 (((200 * tt : Nat) : Int) + U.2 83 (16 * tt + j)) = ((200 * tt + fr + g.length : Nat) : Int) := by rw [u2.2 83 (by decide) (by decide), ee]
  refine ⟨U, ?_, u2⟩
  rw [q_266, if_pos (by first | decide | omega), Int.toNat_natCast, e16, eb, h82, ef]
  refine u1.trans ?_
  rw [q_266_21, if_pos (by first | decide | omega), Int.toNat_natCast, U83, if_neg (by first | decide | omega), if_pos (by decide)]
  obtain ⟨t1, t2⟩ := u3.top
  cases o with
  | none => rw [show U.2 129 0 = 1 from t1 rfl, if_neg (by decide)]
  | some v =>
    obtain ⟨w1, w2⟩ := t2 v rfl
    rw [show U.2 129 0 = 0 from w1, if_pos rfl, if_pos (by decide), show U.2 128 0 = v from w2]
end
