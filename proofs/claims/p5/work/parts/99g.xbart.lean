/-! the class's bar of a text -/
noncomputable def B01 (o : Option Int) : Prop := o = none ∨ o = some 0 ∨ o = some 1
noncomputable def WF1 (le : Int → Int) (ud : Int → Bool) (part : Nat → PR) : Prop := ∀ (p q : Nat) (g : CD), part p = .inr (q, g) → ∃ o, Cmp le ud g o ∧ B01 o
noncomputable def Qf (S T : AH) : Prop := T.1 = S.1 ∧ (∀ a, a ≠ 22 → T.2 a = S.2 a) ∧ ∀ k, 10 ≤ k → T.2 22 k = S.2 22 k
section
variable {L : Nat} {xs : Nat → Int} {d : Nat} {S S' T U W : AH} {t : TB} {n : Nat} {le : Int → Int} {ud : Int → Bool} {h : Nat → Nat → Int}
theorem bi_B {P : Prop} [Decidable P] : B01 (some (bi P)) := by
  unfold bi
  split
  · exact Or.inr (Or.inr rfl)
  · exact Or.inr (Or.inl rfl)
theorem opA_B {c : Int} (hc : c = 38 ∨ c = 124) {a b : Option Int} (ha : B01 a) (hb : B01 b) : B01 (opA c a b) := by
  rcases ha with rfl | rfl | rfl
  · exact Or.inl rfl
  · rcases hc with rfl | rfl
    · exact Or.inr (Or.inl rfl)
    · exact hb
  · rcases hc with rfl | rfl
    · exact hb
    · exact Or.inr (Or.inr rfl)
theorem rowL_wf1 {is : Int → Bool} {part : Nat → PR} (hw : WF1 le ud part) (hi : ∀ c, is c = true → c = 38 ∨ c = 124) : ∀ (k p : Nat) (g : CD) (q : Nat) (g' : CD), (∃ o, Cmp le ud g o ∧ B01 o) → rowL t n is part k p g = .inr (q, g') → ∃ o, Cmp le ud g' o ∧ B01 o := by
  intro k
  induction k with
  | zero =>
    intro p g q g' ho e
    simp only [rowL, Sum.inr.injEq, Prod.mk.injEq] at e
    rw [← e.2]
    exact ho
  | succ k ih =>
    intro p g q g' ho e
    unfold rowL at e
    by_cases c : is (cu t n p) = true
    · rw [if_pos c] at e
      cases hp : part (p + 1) with
      | inl x => rw [hp] at e; cases e
      | inr x =>
        obtain ⟨r, g2⟩ := x
        rw [hp] at e
        obtain ⟨o, ho, hB⟩ := ho
        obtain ⟨o2, ho2, hB2⟩ := hw _ _ _ hp
        have hcc := hi _ c
        exact ih _ _ _ _ ⟨_, ho.bin ho2 (by first | decide | omega), opA_B hcc hB hB2⟩ e
    · rw [if_neg c] at e
      simp only [Sum.inr.injEq, Prod.mk.injEq] at e
      rw [← e.2]
      exact ho
theorem rowG_wf1 {is : Int → Bool} {part : Nat → PR} (hw : WF1 le ud part) (hi : ∀ c, is c = true → c = 38 ∨ c = 124) : WF1 le ud (rowG t n is part) := by
  intro p q g e
  obtain ⟨r, g1, h1, h2⟩ := rowG_inr e
  exact rowL_wf1 hw hi _ _ _ _ _ (hw _ _ _ h1) h2
theorem cmpG_wf1 (o : Nat) : WF1 le ud (cmpG t n o) := by
  intro p q g e
  unfold cmpG at e
  cases h1 : rdE t n 9 o p with
  | inl x => rw [h1] at e; cases e
  | inr x =>
    obtain ⟨r, g1⟩ := x
    rw [h1] at e
    obtain ⟨o1, a1⟩ := rdE_wf (le := le) (ud := ud) _ _ _ _ _ h1
    by_cases c : isSg (cu t n r) = true
    · simp only [c, if_true] at e
      cases h2 : rdE t n 9 o (r + 1) with
      | inl x => rw [h2] at e; cases e
      | inr x =>
        obtain ⟨r2, g2⟩ := x
        rw [h2] at e
        obtain ⟨o2, a2⟩ := rdE_wf (le := le) (ud := ud) _ _ _ _ _ h2
        simp only [Sum.inr.injEq, Prod.mk.injEq] at e
        rw [← e.2]
        refine ⟨_, a1.bin a2 (sg_3 _ c), ?_⟩
        have hcc := of_decide_eq_true c
        cases o1 with
        | none => exact Or.inl rfl
        | some x =>
          cases o2 with
          | none =>
            refine Or.inl ?_
            show (if cu t n r = 38 then _ else if cu t n r = 124 then _ else none) = none
            rw [if_neg (by first | decide | omega), if_neg (by first | decide | omega)]
          | some y =>
            have : opA (cu t n r) (some x) (some y) = some (if cu t n r = (60 : Int) then bi (x < y) else if cu t n r = (62 : Int) then bi (y < x) else bi (x = y)) := by
              show (if cu t n r = 38 then _ else if cu t n r = 124 then _ else if (cu t n r = 47 ∨ cu t n r = 37) ∧ y = 0 then none else some (wkA (cu t n r) x y)) = _
              rw [if_neg (by first | decide | omega), if_neg (by first | decide | omega), if_neg (by first | decide | omega)]
              unfold wkA
              rw [if_neg (by first | decide | omega), if_neg (by first | decide | omega), if_neg (by first | decide | omega), if_neg (by first | decide | omega), if_neg (by first | decide | omega)]
            rw [this]
            repeat' split
            all_goals exact bi_B
    · simp only [c] at e
      cases e
theorem pieG_wf1 {recP recC : Nat → Nat → PR} (hP : ∀ o, WF1 le ud (recP o)) (hC : ∀ o, WF1 le ud (recC o)) (o : Nat) : WF1 le ud (pieG t n recP recC o) := by
  intro p q g e
  unfold pieG at e
  by_cases c1 : cu t n p = 33
  · rw [if_pos c1] at e
    by_cases c2 : 8 ≤ o
    · rw [if_pos c2] at e
      cases e
    · rw [if_neg c2] at e
      cases hr : recP (o + 1) (p + 1) with
      | inl x => rw [hr] at e; cases e
      | inr x =>
        obtain ⟨r, g1⟩ := x
        rw [hr] at e
        obtain ⟨o1, a1, b1⟩ := hP _ _ _ _ hr
        simp only [Sum.inr.injEq, Prod.mk.injEq] at e
        rw [← e.2]
        refine ⟨_, a1.neg, ?_⟩
        rcases b1 with rfl | rfl | rfl
        · exact Or.inl rfl
        · exact Or.inr (Or.inr rfl)
        · exact Or.inr (Or.inl rfl)
  · rw [if_neg c1] at e
    by_cases c3 : cu t n p = 40
    · rw [if_pos c3] at e
      by_cases c2 : 8 ≤ o
      · rw [if_pos c2] at e
        cases e
      · rw [if_neg c2] at e
        cases hr : recC (o + 1) (p + 1) with
        | inl x => rw [hr] at e; cases e
        | inr x =>
          obtain ⟨r, g1⟩ := x
          rw [hr] at e
          have := hC _ _ _ _ hr
          by_cases c4 : cu t n r = 41
          · simp only [c4, if_true, Sum.inr.injEq, Prod.mk.injEq] at e
            rw [← e.2]
            exact this
          · simp only [c4, if_false] at e
            cases e
    · rw [if_neg c3] at e
      by_cases c5 : cu t n p = 117
      · rw [if_pos c5] at e
        cases hr : rdN t n 39 (p + 1) with
        | inl x => rw [hr] at e; cases e
        | inr x =>
          obtain ⟨r, v⟩ := x
          rw [hr] at e
          simp only [Sum.inr.injEq, Prod.mk.injEq] at e
          rw [← e.2]
          refine ⟨_, Cmp.und (rdN_v hr).1, ?_⟩
          split
          · exact Or.inr (Or.inr rfl)
          · exact Or.inr (Or.inl rfl)
      · rw [if_neg c5] at e
        exact cmpG_wf1 _ _ _ _ e
theorem and_12 (c : Int) (hc : isAnd c = true) : c = 38 ∨ c = 124 := Or.inl (of_decide_eq_true hc)
theorem or_12 (c : Int) (hc : isOr c = true) : c = 38 ∨ c = 124 := Or.inr (of_decide_eq_true hc)
theorem cndG_wf1 {pie : Nat → PR} (hp : WF1 le ud pie) : WF1 le ud (cndG t n pie) := rowG_wf1 (rowG_wf1 hp and_12) or_12
theorem rdP_wf1 (f : Nat) : ∀ o, WF1 le ud (rdP t n f o) := by
  induction f with
  | zero => intro o p q g e; cases e
  | succ f ih => intro o; exact pieG_wf1 ih (fun o => cndG_wf1 (ih o)) o
theorem rdC_wf1 : WF1 le ud (rdC t n) := cndG_wf1 (rdP_wf1 9 1)
theorem Qf.rf : Qf S S := ⟨rfl, fun _ _ => rfl, fun _ _ => rfl⟩
theorem Qf.tr (a : Qf S T) (b : Qf T U) : Qf S U := ⟨b.1.trans a.1, fun c q => (b.2.1 c q).trans (a.2.1 c q), fun k q => (b.2.2 k q).trans (a.2.2 k q)⟩
theorem Cf.qf (a : Cf S T) : Qf S T := ⟨a.1, a.2.1, fun k q => a.2.2 k (by first | decide | omega)⟩
theorem Qf.fa (a : Qf S T) (hA : FA S le ud) : FA T le ud := by
  unfold FA
  rw [a.2.1 26 (by decide), a.2.2 11 (by decide)]
  exact hA
theorem Qf.fr (a : Qf S T) : Fr S T := ⟨by rw [a.1]; exact Nat.le_refl _, fun c q1 _ => ⟨by rw [a.1], a.2.1 c (by first | decide | omega)⟩⟩
theorem Qf.tx (q : Qf S T) {a t : Nat} (hT : TX S a t) : TX T a t := hT.fr q.fr (fun c q1 q2 => q.2.1 c (by first | decide | omega))
theorem x_begin {b n p : Nat} (hb : isO S b 0 n) (hn : n ≤ 200) (hA : FA S le ud) (hp : p ≤ n) : ∃ T, ev (WK L xs) (d + 2) 136 [vr 22, vr b, vi (p : Int), vi (n : Int)] S = some (0, T) ∧ GS L xs (byt S.2 b) n le ud T p ∧ Qf S T := by
  generalize hS0 : wr (wr (wr (wr (wr (wr S 22 3 (b : Int)) 22 4 ((p : Int) - 1)) 22 5 (n : Int)) 22 7 0) 22 8 0) 22 9 0 = S0
  have hb1 := hb.1
  have c0 : ∀ a, a ≠ 22 → S0.2 a = S.2 a := fun a ha => by rw [← hS0]; repeat rw [wr_c ha]
  have s0 : S0.1 = S.1 := by rw [← hS0]; rfl
  have k0 : ∀ k, 10 ≤ k → S0.2 22 k = S.2 22 k := fun k hk => by
    rw [← hS0, wr_f, if_neg (by first | decide | omega), wr_f, if_neg (by first | decide | omega), wr_f, if_neg (by first | decide | omega), wr_f, if_neg (by first | decide | omega), wr_f, if_neg (by first | decide | omega), wr_f, if_neg (by first | decide | omega)]
  have q0 : Qf S S0 := ⟨s0, c0, k0⟩
  have B0 : RB L xs (byt S.2 b) n S0 := ⟨hn, fun k => iand255 _, by rw [← hS0]; simp [wr_f], b, n, by rw [← hS0]; simp [wr_f], by omega, by omega, by omega, by rw [shpD hb1, s0, hb.2.2], Nat.le_refl _, fun k hk => by rw [rdvD hb1, c0 b (by first | decide | omega)]; rfl⟩
  obtain ⟨T, t1, t2, t3⟩ := x_step0 (L := L) (xs := xs) (d := d) (S := S0) B0 (q0.fa hA) (q := p) (by rw [← hS0]; simp [wr_f]) hp (by rw [← hS0]; simp [wr_f]) (by rw [← hS0]; simp [wr_f])
  refine ⟨T, ?_, t2, q0.tr t3.qf⟩
  rw [q_136, w32e (x := (p : Int) - 1) (by first | decide | omega) (by first | decide | omega), hS0, t1, bR]
theorem x_barRule {lt v nm rk td : Int} (hw : isWd lt = true) (hv : v = 0 ∨ v = 1) (h4 : U.2 26 4 = rk) (h12 : U.2 22 12 = td) : ev (WK L xs) (d + 1) 159 [vr 22, vi lt, vi v, vi nm] U = some (brK rk td lt nm (some v), U) := by
  have hc := of_decide_eq_true hw
  rw [q_159, h4, h12]
  simp only [lc_lt]
  show _ = some (if lt = 111 then (if v = 1 then 0 else 5) else if v = 0 then 0 else if lt = 110 then 5 else if lt = 115 then (if rk < nm then 6 else 0) else (if td = 0 then 7 else 0), U)
  rcases hc with e | e | e | e
  · rw [if_neg (by first | decide | omega), if_pos e, if_pos e]
    rcases hv with q | q
    · rw [if_pos q, if_neg (by first | decide | omega)]
    · rw [if_neg (by first | decide | omega), if_pos q]
  · rw [if_pos e, if_neg (show ¬ lt = 111 by omega), if_pos e]
    rcases hv with q | q
    · rw [if_pos q, if_pos q]
    · rw [if_neg (by first | decide | omega), if_neg (by first | decide | omega)]
  · rw [if_neg (by first | decide | omega), if_neg (by first | decide | omega), if_neg (by first | decide | omega), if_neg (by first | decide | omega), if_neg (by first | decide | omega), if_pos e, if_neg (show ¬ lt = 111 by omega), if_neg (show ¬ lt = 110 by omega), if_pos e]
    rcases hv with q | q
    · rw [if_pos q, if_pos q]
    · rw [if_neg (by first | decide | omega), if_neg (show ¬ v = 0 by omega), if_pos (by decide)]
      by_cases z : rk < nm
      · rw [if_pos z, if_pos z]
      · rw [if_neg z, if_neg z]
  · rw [if_neg (by first | decide | omega), if_neg (by first | decide | omega), if_neg (by first | decide | omega), if_neg (by first | decide | omega), if_neg (by first | decide | omega), if_neg (by first | decide | omega), if_pos e, if_neg (show ¬ lt = 111 by omega), if_neg (show ¬ lt = 110 by omega), if_neg (show ¬ lt = 115 by omega)]
    rcases hv with q | q
    · rw [if_pos q, if_pos q]
    · rw [if_neg (by first | decide | omega), if_neg (show ¬ v = 0 by omega)]
      by_cases z : td = 0
      · rw [if_pos z, if_pos z]
      · rw [if_neg z, if_neg z]
/-- a text's bar -/
theorem x_barL {a tt c : Nat} {l : Int} (hT : TX S a tt) (hA : FA S (leC S.2 c l) (udC S.2 c)) (h12 : S.2 22 12 = S.2 113 c) {mk : Nat → Bool} {x2 : Int} (hm : ∀ j : Nat, j < 16 → (iand (ishr x2 (j : Int)) 1 = 0 ↔ mk j = false)) : ∀ (m j : Nat) (T : AH), (j + m : Nat) = (S.2 78 tt).toNat → Qf S T → ∃ U, LQ (WK L xs) (ev (WK L xs) (d + 69)) 158 5 [some (vr 22), some (vr a), some (vi x2), some (vi 0), some (vi (j : Int)), none, none] [] T = some (tbR S.2 c l mk tt m j, U) ∧ Qf S U := by
  have had := hT.ad
  have hcm := cm_bd hT
  intro m
  induction m with
  | zero =>
    intro j T hj hQ
    obtain ⟨k1, k2⟩ := x_clauses (L := L) (xs := xs) (d := d + 68) (hQ.tx hT)
    refine ⟨T, ?_, hQ⟩
    rw [q_158_5, if_neg had.1, nb14 had.2, k1, show (true && Nat.ble 1 8) = true from rfl, gdT, k2, bR, hQ.2.1 78 (by decide), if_neg (by first | decide | omega)]
    rfl
  | succ m ih =>
    intro j T hj hQ
    have hTT := hQ.tx hT
    have hjm : (j : Int) < S.2 78 tt := by omega
    obtain ⟨k1, k2⟩ := x_clauses (L := L) (xs := xs) (d := d + 68) hTT
    obtain ⟨j16, n1, n2, n3, n4⟩ := hTT.cl (L := L) (xs := xs) (j := j) (by rw [hQ.2.1 78 (by decide)]; exact hjm)
    have T79 : T.2 79 = S.2 79 := hQ.2.1 79 (by decide)
    have T80 : T.2 80 = S.2 80 := hQ.2.1 80 (by decide)
    have e1 : w32 ((j : Int) + 1) = ((j + 1 : Nat) : Int) := by
      rw [w32e (by first | decide | omega) (by first | decide | omega)]
      rfl
    have go := q_158_5 L xs (d + 69) T a x2 0 (j : Int)
    rw [if_neg had.1, nb14 had.2, k1, show (true && Nat.ble 1 8) = true from rfl, gdT, k2, bR, hQ.2.1 78 (by decide), if_pos hjm, if_pos rfl, k1, show (true && Nat.ble 0 8) = true from rfl, gdT, n3, bR, T79, e1] at go
    show ∃ U, LQ (WK L xs) (ev (WK L xs) (d + 69)) 158 5 [some (vr 22), some (vr a), some (vi x2), some (vi 0), some (vi (j : Int)), none, none] [] T = some (if mk j = true ∧ brH S.2 c l (16 * tt + j) ≠ 0 then brH S.2 c l (16 * tt + j) else tbR S.2 c l mk tt m (j + 1), U) ∧ Qf S U
    by_cases cm : mk j = true
    rotate_left
    · rw [if_pos ((hm j j16).mpr (nf cm))] at go
      rw [if_neg (fun z => cm z.1), go]
      exact ih (j + 1) T (by first | decide | omega) hQ
    rw [if_neg (fun z => by rw [(hm j j16).mp z] at cm; exact absurd cm (by decide)), x_rule, bR] at go
    simp only [bi_0] at go
    by_cases hw : isWd (S.2 79 (16 * tt + j)) = true
    rotate_left
    · have hb0 : brH S.2 c l (16 * tt + j) = 0 := by unfold brH; rw [if_neg hw]
      rw [if_pos hw] at go
      rw [if_neg (fun z => z.2 hb0), go]
      exact ih (j + 1) T (by first | decide | omega) hQ
    rw [if_neg (fun z => z hw)] at go
    obtain ⟨b, n, p, r, fr, g, b1, b2, b3, b4, b5, b6, b7, b8, b9, -⟩ := hTT.rule (L := L) (xs := xs) (j := j) (by rw [hQ.2.1 78 (by decide)]; exact hjm) (by rw [T79]; exact hw)
    have ecd : cdK T.2 (16 * tt + j) = cdK S.2 (16 * tt + j) := by
      unfold cdK
      rw [hQ.2.1 82 (by decide), hQ.2.1 83 (by decide), hQ.2.1 84 (by decide), hQ.2.1 85 (by decide)]
    have k19 : Nat.beq (shp (WK L xs) T a).1 19 = true := k1
    have hab : rdv (WK L xs) T a 0 = (b : Int) := by rw [rdvD b1.1, b2]
    have hbs : shp (WK L xs) T b = (0, n) := by rw [shpD b3.1]; exact b3.2.2
    have ep : w32 ((p : Int) + 1) = ((p + 1 : Nat) : Int) := by
      rw [w32e (by first | decide | omega) (by first | decide | omega)]
      rfl
    obtain ⟨A, a1, a2, a3⟩ := x_begin (L := L) (xs := xs) (d := d + 67) (p := p + 1) b3 b4 (hQ.fa hA) b6
    obtain ⟨B, c1, c2, c3⟩ := (x_expect (L := L) (xs := xs) (d := d + 67) a2 (c := 40) (by decide)).1 b7
    rw [k19, gdT, show (true && Nat.ble 2 8) = true from rfl, gdT, b5, bR, hab, Int.toNat_natCast, hbs, show Nat.ble ((0, n) : Nat × Nat).1 6 = true from rfl, gdT, k19, gdT, ep, show ev (WK L xs) (d + 69) 136 [vr 22, vr b, vi ((p + 1 : Nat) : Int), vi ((((0, n) : Nat × Nat).2 : Nat) : Int)] T = some (0, A) from a1, bR, show ev (WK L xs) (d + 69) 145 [vr 22, vi 40] A = some (0, B) from c1, bR] at go
    have hC := xrdC (L := L) (xs := xs) (d := d) (live := true) c2
    rw [show p + 1 + 1 = p + 2 from rfl, b8] at hC
    obtain ⟨v, U, u1, u2, u3⟩ := hC
    have hv := u2 rfl
    rw [show ev (WK L xs) (d + 69) 147 [vr 22, vi 1, vi 1] B = some (v, U) from u1, bR] at go
    rw [ecd] at b9
    rcases u3 with ⟨uG, uC, uv⟩ | ⟨-, ug, uR⟩
    · have hQU : Qf S U := ((hQ.tr a3).tr c3.qf).tr uC.qf
      have hTU := hQU.tx hT
      obtain ⟨ku, -⟩ := x_clauses (L := L) (xs := xs) (d := d + 68) hTU
      obtain ⟨-, -, -, -, n4u⟩ := hTU.cl (L := L) (xs := xs) (j := j) (by rw [hQU.2.1 78 (by decide)]; exact hjm)
      have hne : S.2 79 (16 * tt + j) ≠ 120 := fun z => by rw [z] at hw; exact absurd hw (by decide)
      have hbr := x_barRule (L := L) (xs := xs) (d := d + 68) (U := U) (nm := S.2 80 (16 * tt + j)) (rk := rkC S.2 c) (td := S.2 113 c) hw hv (by rw [hQU.2.1 26 (by decide)]; exact hA.1.2.2.2.2.1) (by rw [hQU.2.2 12 (by decide), h12])
      have hb : brH S.2 c l (16 * tt + j) = brK (rkC S.2 c) (S.2 113 c) (S.2 79 (16 * tt + j)) (S.2 80 (16 * tt + j)) (some v) := by
        unfold brH
        rw [if_pos hw, b9, (uv rfl).ev]
      rw [if_pos uG.2.2.2.2.2.1, ku, show (true && Nat.ble 3 8) = true from rfl, gdT, n4u, bR, hQU.2.1 79 (by decide), hQU.2.1 80 (by decide), if_neg hne, hbr, bR, ← hb] at go
      by_cases z : brH S.2 c l (16 * tt + j) = 0
      · rw [if_neg (fun y => y.2 z), go, z]
        exact ih (j + 1) U (by first | decide | omega) hQU
      · rw [if_pos ⟨cm, z⟩]
        obtain ⟨kk1, kk2⟩ := x_clauses (L := L) (xs := xs) (d := d + 68) hTU
        refine ⟨U, ?_, hQU⟩
        rw [go, q_158_5, if_neg had.1, nb14 had.2, kk1, show (true && Nat.ble 1 8) = true from rfl, gdT, kk2, bR]
        by_cases y : ((j + 1 : Nat) : Int) < U.2 78 tt
        · rw [if_pos y, if_neg z]
        · rw [if_neg y]
    · have hQU : Qf S U := ((hQ.tr a3).tr c3.qf).tr uR.1.qf
      have hTU := hQU.tx hT
      have hb : brH S.2 c l (16 * tt + j) = 8 := by
        unfold brH
        rw [if_pos hw, b9, ug.ev]
        rfl
      rw [if_neg (show ¬ U.2 22 9 = 0 by rw [uR.2.2.1]; decide)] at go
      rw [hb, if_pos ⟨cm, by decide⟩]
      obtain ⟨kk1, kk2⟩ := x_clauses (L := L) (xs := xs) (d := d + 68) hTU
      refine ⟨U, ?_, hQU⟩
      rw [go, q_158_5, if_neg had.1, nb14 had.2, kk1, show (true && Nat.ble 1 8) = true from rfl, gdT, kk2, bR]
      by_cases y : ((j + 1 : Nat) : Int) < U.2 78 tt
      · rw [if_pos y, if_neg (by decide)]
      · rw [if_neg y]
theorem x_barText {a tt c : Nat} {l : Int} (hT : TX S a tt) (hA : FA S (leC S.2 c l) (udC S.2 c)) (h12 : S.2 22 12 = S.2 113 c) {mk : Nat → Bool} {x2 : Int} (hm : ∀ j : Nat, j < 16 → (iand (ishr x2 (j : Int)) 1 = 0 ↔ mk j = false)) : ∃ U, ev (WK L xs) (d + 70) 158 [vr 22, vr a, vi x2] S = some (tbR S.2 c l mk tt (S.2 78 tt).toNat 0, U) ∧ Qf S U := by
  rw [q_158]
  exact x_barL hT hA h12 hm _ 0 S (by first | decide | omega) Qf.rf
end
