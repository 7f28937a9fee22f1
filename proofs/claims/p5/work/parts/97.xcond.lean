/-! the class reads a condition as the descent does -/
section
variable {le : Int → Int} {ud : Int → Bool} {t : TB} {n : Nat}
theorem nds_v (k p : Nat) (v : Int) (hv : 0 ≤ v) : 0 ≤ (nds t n k p v).2 := by
  induction k generalizing p v with
  | zero => unfold nds; exact hv
  | succ k ih =>
    unfold nds
    by_cases q : dgt (cu t n p) = true
    · rw [if_pos q]
      have := dgt_b q
      exact ih _ _ (by first | decide | omega)
    · rw [if_neg q]
      exact hv
theorem rdN_v {most : Int} {p q : Nat} {v : Int} (h : rdN t n most p = .inr (q, v)) : 0 ≤ v ∧ v ≤ most := by
  unfold rdN at h
  by_cases c : dgt (cu t n p) = false
  · rw [if_pos c] at h
    cases h
  · rw [if_neg c] at h
    by_cases c1 : dgt (cu t n (nds t n 6 p 0).1) = true
    · rw [if_pos c1] at h
      cases h
    · rw [if_neg c1] at h
      by_cases c2 : most < (nds t n 6 p 0).2
      · rw [if_pos c2] at h
        cases h
      · rw [if_neg c2] at h
        simp only [Sum.inr.injEq] at h
        have := nds_v (t := t) (n := n) 6 p 0 (by decide)
        rw [h] at this c2
        exact ⟨this, by omega⟩
theorem cmpG_wf (o : Nat) : WFp le ud (cmpG t n o) := by
  intro p q g e
  unfold cmpG at e
  cases h1 : rdE t n 9 o p with
  | inl x => rw [h1] at e; cases e
  | inr x =>
    obtain ⟨r, g1⟩ := x
    rw [h1] at e
    obtain ⟨o1, a1⟩ := rdE_wf (le := le) (ud := ud) _ _ _ _ _ h1
    by_cases c : isSg (cu t n r) = true
    · simp only [c, if_true] at e
      cases h2 : rdE t n 9 o (r + 1) with
      | inl x => rw [h2] at e; cases e
      | inr x =>
        obtain ⟨r2, g2⟩ := x
        rw [h2] at e
        obtain ⟨o2, a2⟩ := rdE_wf (le := le) (ud := ud) _ _ _ _ _ h2
        simp only [Sum.inr.injEq, Prod.mk.injEq] at e
        rw [← e.2]
        exact ⟨_, a1.bin a2 (sg_3 _ c)⟩
    · simp only [c] at e
      cases e
theorem pieG_wf {recP recC : Nat → Nat → PR} (hP : ∀ o, WFp le ud (recP o)) (hC : ∀ o, WFp le ud (recC o)) (o : Nat) : WFp le ud (pieG t n recP recC o) := by
  intro p q g e
  unfold pieG at e
  by_cases c1 : cu t n p = 33
  · rw [if_pos c1] at e
    by_cases c2 : 8 ≤ o
    · rw [if_pos c2] at e
      cases e
    · rw [if_neg c2] at e
      cases hr : recP (o + 1) (p + 1) with
      | inl x => rw [hr] at e; cases e
      | inr x =>
        obtain ⟨r, g1⟩ := x
        rw [hr] at e
        obtain ⟨o1, a1⟩ := hP _ _ _ _ hr
        simp only [Sum.inr.injEq, Prod.mk.injEq] at e
        rw [← e.2]
        exact ⟨_, a1.neg⟩
  · rw [if_neg c1] at e
    by_cases c3 : cu t n p = 40
    · rw [if_pos c3] at e
      by_cases c2 : 8 ≤ o
      · rw [if_pos c2] at e
        cases e
      · rw [if_neg c2] at e
        cases hr : recC (o + 1) (p + 1) with
        | inl x => rw [hr] at e; cases e
        | inr x =>
          obtain ⟨r, g1⟩ := x
          rw [hr] at e
          have := hC _ _ _ _ hr
          by_cases c4 : cu t n r = 41
          · simp only [c4, if_true, Sum.inr.injEq, Prod.mk.injEq] at e
            rw [← e.2]
            exact this
          · simp only [c4, if_false] at e
            cases e
    · rw [if_neg c3] at e
      by_cases c5 : cu t n p = 117
      · rw [if_pos c5] at e
        cases hr : rdN t n 39 (p + 1) with
        | inl x => rw [hr] at e; cases e
        | inr x =>
          obtain ⟨r, v⟩ := x
          rw [hr] at e
          simp only [Sum.inr.injEq, Prod.mk.injEq] at e
          rw [← e.2]
          exact ⟨_, Cmp.und (rdN_v hr).1⟩
      · rw [if_neg c5] at e
        exact cmpG_wf _ _ _ _ e
theorem cndG_wf {pie : Nat → PR} (h : WFp le ud pie) : WFp le ud (cndG t n pie) := rowG_wf (rowG_wf h and_3) or_3
theorem rdP_wf (f : Nat) : ∀ o, WFp le ud (rdP t n f o) := by
  induction f with
  | zero => intro o p q g e; cases e
  | succ f ih => intro o; exact pieG_wf ih (fun o => cndG_wf (ih o)) o
end
section
variable {L : Nat} {xs : Nat → Int} {d : Nat} {S S' T U W : AH} {t : TB} {n p : Nat} {le : Int → Int} {ud : Int → Bool} {live bl : Bool}
theorem b01 {P : Prop} [Decidable P] {S : AH} : (if P then (some ((1 : Int), S) : Rs) else some (0, S)) = some (bi P, S) := ite_bi
theorem biv {P : Prop} [Decidable P] : (true = true → bi P = 0 ∨ bi P = 1) := fun _ => by rw [bi_01]; trivial
theorem xcmp_ok (o : Nat) (ho : 1 ≤ o ∧ o ≤ 8) (H : GS L xs t n le ud S p) (h1 : cu t n p ≠ 33) (h2 : cu t n p ≠ 40) (h3 : cu t n p ≠ 117) : CR L xs t n le ud live true S (ev (WK L xs) (d + 36) 149 [vr 22, vi (o : Int), vi (lv live)] S) (cmpG t n o p) := by
  have h200 := H.1.1
  have s33 : S.2 22 6 = 33 ↔ cu t n p = 33 := by rw [H.2.2.2.1]; exact sgn_cu (by decide)
  have s40 : S.2 22 6 = 40 ↔ cu t n p = 40 := by rw [H.2.2.2.1]; exact sgn_cu (by decide)
  have s117 : S.2 22 6 = 117 ↔ cu t n p = 117 := by rw [H.2.2.2.1]; exact sgn_cu (by decide)
  have go : ev (WK L xs) (d + 36) 149 [vr 22, vi (o : Int), vi (lv live)] S = bindR (ev (WK L xs) (d + 35) 151 [vr 22, vi (o : Int), vi (lv live)] S) (fun r1 S2 => (bindR (ev (WK L xs) (d + 35) 139 [vr 22, vr 6] S2) (fun r3 S4 => (if r3 = 0 then (bindR (ev (WK L xs) (d + 35) 141 [vr 22, vi (1 : Int), vi (S4.2 22 4)] S4) (fun r9 S10 => (some ((0 : Int), S10)))) else (bindR (ev (WK L xs) (d + 35) 137 [vr 22] S4) (fun r5 S6 => (bindR (ev (WK L xs) (d + 35) 151 [vr 22, vi (o : Int), vi (lv live)] S6) (fun r7 S8 => some (if (S2.2 22 6) = (60 : Int) then bi (r1 < r7) else if (S2.2 22 6) = (62 : Int) then bi (r7 < r1) else bi (r1 = r7), S8))))))))) := by
    rw [q_149, if_neg (fun z => h1 (s33.mp z)), if_neg (fun z => h2 (s40.mp z)), if_neg (fun z => h3 (s117.mp z))]
    simp only [lc_lt, lc_gt, lc_eq, b01]
    congr 1
    funext r1 S2
    congr 1
    funext r3 S4
    by_cases q : r3 = 0
    · rw [if_pos q, if_pos q]
    · rw [if_neg q, if_neg q]
      congr 1
      funext r5 S6
      congr 1
      funext r7 S8
      by_cases q1 : S2.2 22 6 = 60
      · rw [if_pos q1, if_pos q1]
      · rw [if_neg q1, if_neg q1]
        by_cases q2 : S2.2 22 6 = 62
        · rw [if_pos q2, if_pos q2]
        · rw [if_neg q2, if_neg q2]
  have v01 : ∀ (c r1 r7 : Int), (if c = (60 : Int) then bi (r1 < r7) else if c = (62 : Int) then bi (r7 < r1) else bi (r1 = r7)) = 0 ∨ (if c = (60 : Int) then bi (r1 < r7) else if c = (62 : Int) then bi (r7 < r1) else bi (r1 = r7)) = 1 := fun c r1 r7 => by
    repeat' split
    all_goals (rw [bi_01]; trivial)
  have hE := xexp_ok (L := L) (xs := xs) (d := d) (le := le) (ud := ud) (live := live) 9 o p S ho.2 (by first | decide | omega) H
  unfold cmpG
  revert hE
  rw [show d + 3 * 9 + 8 = d + 35 from rfl]
  cases hr : rdE t n 9 o p with
  | inl e =>
    intro hE hl
    obtain ⟨v, T, t1, -, t3⟩ := hE hl
    exact ⟨0, T, by rw [go, t1, bR, x_next6 t3.dead.1 (by decide), bR, bi_F (by decide), if_pos rfl, x_failD t3.dead, bR], fun _ => Or.inl rfl, t3⟩
  | inr x =>
    obtain ⟨q, g⟩ := x
    rintro ⟨v, T, t1, -, ⟨tG, tC, tv⟩ | ⟨tl, tg, tR⟩⟩
    · rw [t1, bR, x_next6 tG.2.2.2.1 (sgn_b tG.1.2.1), sgn_sg, bR] at go
      show CR L xs t n le ud live true S _ (if isSg (cu t n q) then (match rdE t n 9 o (q + 1) with
        | .inl e => .inl e
        | .inr (r, g2) => .inr (r, g ++ g2 ++ [(cu t n q, 0)])) else .inl (flt 1 q))
      have hqn := tG.2.2.2.2.2.2
      by_cases c : isSg (cu t n q) = true
      · have hcc := of_decide_eq_true c
        have hlt := cu_pos (t := t) (n := n) (p := q) (by first | decide | omega)
        obtain ⟨U, u1, u2, u3⟩ := x_step (L := L) (xs := xs) (d := d + 34) tG hlt
        rw [if_pos c]
        rw [bi_T c, if_neg (by decide), u1, bR] at go
        have hE2 := xexp_ok (L := L) (xs := xs) (d := d) (le := le) (ud := ud) (live := live) 9 o (q + 1) U ho.2 (by first | decide | omega) u2
        revert hE2
        rw [show d + 3 * 9 + 8 = d + 35 from rfl]
        rw [tG.2.2.2.1, cu_sgn hlt] at go
        cases hr2 : rdE t n 9 o (q + 1) with
        | inl e =>
          intro hE2 hl
          obtain ⟨w, V, v1, -, v3⟩ := hE2 hl
          exact ⟨_, V, by rw [go, v1, bR], fun _ => v01 _ _ _, v3.of (tC.tr u3)⟩
        | inr y =>
          obtain ⟨r, g2⟩ := y
          rintro ⟨w, V, v1, -, ⟨vG, vC, vv⟩ | ⟨vl, vg, vR⟩⟩
          · rw [v1, bR] at go
            refine ⟨_, V, go, fun _ => v01 _ _ _, Or.inl ⟨vG, (tC.tr u3).tr vC, fun hl => ?_⟩⟩
            have := (tv hl).bin (vv hl) (sg_3 _ c)
            rw [show opA (cu t n q) (some v) (some w) = some (if cu t n q = (60 : Int) then bi (v < w) else if cu t n q = (62 : Int) then bi (w < v) else bi (v = w)) by
              show (if cu t n q = 38 then _ else if cu t n q = 124 then _ else if (cu t n q = 47 ∨ cu t n q = 37) ∧ w = 0 then none else some (wkA (cu t n q) v w)) = _
              rw [if_neg (by first | decide | omega), if_neg (by first | decide | omega), if_neg (by first | decide | omega)]
              unfold wkA
              rw [if_neg (by first | decide | omega), if_neg (by first | decide | omega), if_neg (by first | decide | omega), if_neg (by first | decide | omega), if_neg (by first | decide | omega)]] at this
            exact this
          · rw [v1, bR] at go
            refine ⟨_, V, go, fun _ => v01 _ _ _, Or.inr ⟨vl, ?_, vR.of (tC.tr u3)⟩⟩
            have := (tv vl).bin vg (sg_3 _ c)
            rw [show opA (cu t n q) (some v) none = none by
              show (if cu t n q = 38 then _ else if cu t n q = 124 then _ else none) = none
              rw [if_neg (by first | decide | omega), if_neg (by first | decide | omega)]] at this
            exact this
      · rw [if_neg c]
        obtain ⟨F, f1, f2⟩ := x_fail (L := L) (xs := xs) (d := d + 34) tG (f := 1) (by decide) (q := q) (by first | decide | omega)
        rw [bi_F c, if_pos rfl, tG.2.2.1, f1, bR] at go
        exact CR.bad go (fun _ => Or.inl rfl) (f2.of tC)
    · rw [t1, bR, x_next6 tR.dead.1 (by decide), bR, bi_F (by decide), if_pos rfl, x_failD tR.dead, bR] at go
      show CR L xs t n le ud live true S _ (if isSg (cu t n q) then (match rdE t n 9 o (q + 1) with
        | .inl e => .inl e
        | .inr (r, g2) => .inr (r, g ++ g2 ++ [(cu t n q, 0)])) else .inl (flt 1 q))
      by_cases c : isSg (cu t n q) = true
      · rw [if_pos c]
        cases hr2 : rdE t n 9 o (q + 1) with
        | inl e => exact fun z => absurd (z.symm.trans tl) (by decide)
        | inr y =>
          obtain ⟨r, g2⟩ := y
          obtain ⟨o2, a2⟩ := rdE_wf (le := le) (ud := ud) _ _ _ _ _ hr2
          exact ⟨0, T, go, fun _ => Or.inl rfl, Or.inr ⟨tl, tg.bin a2 (sg_3 _ c), tR⟩⟩
      · rw [if_neg c]
        exact fun z => absurd (z.symm.trans tl) (by decide)
theorem parD (h : Dead S) (o l v i : Int) (hv : v = 0 ∨ v = 1) : LQ (WK L xs) (ev (WK L xs) d) 148 10 [some (vr 22), some (vi o), some (vi l), some (vi v), some (vi i), none, none] [] S = some (v, S) := by
  rw [q_148_10, h.1]
  by_cases q : i < 200
  · rw [if_pos q, if_neg (by decide), if_pos hv]
  · rw [if_neg q, if_pos hv]
theorem cndD (h : Dead S) (o l v i : Int) (hv : v = 0 ∨ v = 1) : LQ (WK L xs) (ev (WK L xs) d) 147 10 [some (vr 22), some (vi o), some (vi l), some (vi v), some (vi i), none, none] [] S = some (v, S) := by
  rw [q_147_10, h.1]
  by_cases q : i < 200
  · rw [if_pos q, if_neg (by decide), if_pos hv]
  · rw [if_neg q, if_pos hv]
theorem xpar_row {pie : Nat → PR} {o : Int} (hw : WFp le ud pie) (hf : ∀ (lv' : Bool) (p : Nat) (S : AH), GS L xs t n le ud S p → CR L xs t n le ud lv' true S (ev (WK L xs) (d + 1) 149 [vr 22, vi o, vi (lv lv')] S) (pie p)) : ∀ (k i p : Nat) (g : CD) (v : Int) (S : AH), i + k = 200 → GS L xs t n le ud S p → (v = 0 ∨ v = 1) → (live = true → Cmp le ud g (some v)) → CR L xs t n le ud live true S (LQ (WK L xs) (ev (WK L xs) (d + 1)) 148 10 [some (vr 22), some (vi o), some (vi (lv live)), some (vi v), some (vi (i : Int)), none, none] [] S) (rowL t n isAnd pie k p g) := by
  intro k
  induction k with
  | zero =>
    intro i p g v S hi H hv hg
    exact ⟨v, S, by rw [q_148_10, if_neg (by first | decide | omega), if_pos hv], fun _ => hv, Or.inl ⟨H, Cf.rf, hg⟩⟩
  | succ k ih =>
    intro i p g v S hi H hv hg
    have e1 : w32 ((i : Int) + 1) = ((i + 1 : Nat) : Int) := by
      rw [w32e (by first | decide | omega) (by first | decide | omega)]
      rfl
    have s38 : S.2 22 6 = 38 ↔ cu t n p = 38 := by rw [H.2.2.2.1]; exact sgn_cu (by decide)
    unfold rowL
    by_cases c : isAnd (cu t n p) = true
    · rw [if_pos c]
      have hcc : cu t n p = 38 := of_decide_eq_true c
      have hlt := cu_pos (t := t) (n := n) (p := p) (by first | decide | omega)
      obtain ⟨T, t1, t2, t3⟩ := x_step (L := L) (xs := xs) (d := d) H hlt
      obtain ⟨ak, hak⟩ : ∃ ak : Bool, ak = (live && decide (v = 1)) := ⟨_, rfl⟩
      have go : LQ (WK L xs) (ev (WK L xs) (d + 1)) 148 10 [some (vr 22), some (vi o), some (vi (lv live)), some (vi v), some (vi (i : Int)), none, none] [] S = bindR (ev (WK L xs) (d + 1) 149 [vr 22, vi o, vi (lv ak)] T) (fun r1 S2 => LQ (WK L xs) (ev (WK L xs) (d + 1)) 148 10 [some (vr 22), some (vi o), some (vi (lv live)), some (vi (if ak = true then r1 else v)), some (vi ((i + 1 : Nat) : Int)), none, none] [] S2) := by
        rw [q_148_10, if_pos (by first | decide | omega), if_pos (s38.mpr hcc), t1, bR]
        cases hl : live with
        | false =>
          rw [hl] at hak
          rw [if_pos (show lv false = 0 from rfl), q_148_44, hak, e1]
          simp only [if_pos]
          rfl
        | true =>
          rw [hl] at hak
          rw [if_neg (show ¬ lv true = 0 by decide)]
          rcases hv with hv | hv
          · rw [if_pos hv, q_148_44, hak, e1, hv]
            simp only [if_pos]
            rfl
          · rw [if_neg (by first | decide | omega), q_148_44, hak, e1, hv]
            rfl
      have hF := hf ak _ _ t2
      revert hF
      cases hp : pie (p + 1) with
      | inl e =>
        intro hF hl
        have ha : ak = false := by rw [hak, hl]; rfl
        obtain ⟨v2, U, u1, u2, u3⟩ := hF ha
        refine ⟨v, U, ?_, fun _ => hv, u3.of t3⟩
        rw [go, u1, bR, ha, if_neg (by decide)]
        exact parD u3.dead _ _ _ _ hv
      | inr x =>
        obtain ⟨q, g2⟩ := x
        obtain ⟨o2, ho2⟩ := hw _ _ _ hp
        rintro ⟨v2, U, u1, u2, ⟨uG, uC, uv⟩ | ⟨ul, ug, uR⟩⟩
        · rw [u1, bR] at go
          have hv2 : (if ak = true then v2 else v) = 0 ∨ (if ak = true then v2 else v) = 1 := by
            by_cases z : ak = true
            · rw [if_pos z]
              exact u2 rfl
            · rw [if_neg z]
              exact hv
          refine CR.of (t3.tr uC) go (ih (i + 1) q _ _ U (by first | decide | omega) uG hv2 (fun hl => ?_))
          by_cases z : ak = true
          · have := (hg hl).bin (uv z) (and_3 _ c)
            have v1 : v = 1 := by
              rw [hak, hl] at z
              simpa using z
            rw [if_pos z]
            rw [v1, hcc, show opA 38 (some 1) (some v2) = some v2 from rfl] at this
            rw [hcc]
            exact this
          · have v0 : v = 0 := by
              rcases hv with hv | hv
              · exact hv
              · exact absurd (by rw [hak, hl, hv]; rfl) z
            have := (hg hl).bin ho2 (and_3 _ c)
            rw [if_neg z, v0]
            rw [v0, hcc, show opA 38 (some 0) o2 = some 0 from rfl] at this
            rw [hcc]
            exact this
        · have hl : live = true := by
            rw [hak] at ul
            simp only [Bool.and_eq_true] at ul
            exact ul.1
          have v1 : v = 1 := by
            rw [hak, hl] at ul
            simpa using ul
          have hg3 : Cmp le ud (g ++ g2 ++ [(cu t n p, 0)]) none := by
            have := (hg hl).bin ug (and_3 _ c)
            rw [v1, hcc, show opA 38 (some 1) none = none from rfl] at this
            rw [hcc]
            exact this
          rw [u1, bR, if_pos ul, parD uR.dead _ _ _ _ (u2 rfl)] at go
          exact CR.ref hw and_3 hl go u2 (uR.of t3) hg3 k q
    · rw [if_neg c]
      have hcc : cu t n p ≠ 38 := of_decide_eq_false (nf c)
      exact ⟨v, S, by rw [q_148_10, if_pos (by first | decide | omega), if_neg (fun z => hcc (s38.mp z)), if_pos hv], fun _ => hv, Or.inl ⟨H, Cf.rf, hg⟩⟩
theorem xpar_ok {pie : Nat → PR} {o : Int} (hw : WFp le ud pie) (hf : ∀ (lv' : Bool) (p : Nat) (S : AH), GS L xs t n le ud S p → CR L xs t n le ud lv' true S (ev (WK L xs) (d + 1) 149 [vr 22, vi o, vi (lv lv')] S) (pie p)) (H : GS L xs t n le ud S p) : CR L xs t n le ud live true S (ev (WK L xs) (d + 2) 148 [vr 22, vi o, vi (lv live)] S) (rowG t n isAnd pie p) := by
  have hF := hf live p S H
  unfold rowG
  revert hF
  rw [q_148]
  cases pie p with
  | inl e =>
    intro hF hl
    obtain ⟨v, T, t1, t2, t3⟩ := hF hl
    exact ⟨v, T, by rw [t1, bR]; exact parD t3.dead _ _ _ _ (t2 rfl), t2, t3⟩
  | inr x =>
    obtain ⟨q, g⟩ := x
    rintro ⟨v, T, t1, t2, ⟨tG, tC, tv⟩ | ⟨tl, tg, tR⟩⟩
    · exact CR.of tC (by rw [t1, bR]; rfl) (xpar_row hw hf 200 0 q g v T rfl tG (t2 rfl) tv)
    · exact CR.ref hw and_3 tl (by rw [t1, bR]; exact parD tR.dead _ _ _ _ (t2 rfl)) t2 tR tg 200 q
theorem xcnd_row {pie : Nat → PR} {o : Int} (hw : WFp le ud pie) (hf : ∀ (lv' : Bool) (p : Nat) (S : AH), GS L xs t n le ud S p → CR L xs t n le ud lv' true S (ev (WK L xs) (d + 1) 149 [vr 22, vi o, vi (lv lv')] S) (pie p)) : ∀ (k i p : Nat) (g : CD) (v : Int) (S : AH), i + k = 200 → GS L xs t n le ud S p → (v = 0 ∨ v = 1) → (live = true → Cmp le ud g (some v)) → CR L xs t n le ud live true S (LQ (WK L xs) (ev (WK L xs) (d + 2)) 147 10 [some (vr 22), some (vi o), some (vi (lv live)), some (vi v), some (vi (i : Int)), none, none] [] S) (rowL t n isOr (rowG t n isAnd pie) k p g) := by
  have hw2 : WFp le ud (rowG t n isAnd pie) := rowG_wf hw and_3
  intro k
  induction k with
  | zero =>
    intro i p g v S hi H hv hg
    exact ⟨v, S, by rw [q_147_10, if_neg (by first | decide | omega), if_pos hv], fun _ => hv, Or.inl ⟨H, Cf.rf, hg⟩⟩
  | succ k ih =>
    intro i p g v S hi H hv hg
    have e1 : w32 ((i : Int) + 1) = ((i + 1 : Nat) : Int) := by
      rw [w32e (by first | decide | omega) (by first | decide | omega)]
      rfl
    have s124 : S.2 22 6 = 124 ↔ cu t n p = 124 := by rw [H.2.2.2.1]; exact sgn_cu (by decide)
    unfold rowL
    by_cases c : isOr (cu t n p) = true
    · rw [if_pos c]
      have hcc : cu t n p = 124 := of_decide_eq_true c
      have hlt := cu_pos (t := t) (n := n) (p := p) (by first | decide | omega)
      obtain ⟨T, t1, t2, t3⟩ := x_step (L := L) (xs := xs) (d := d + 1) H hlt
      obtain ⟨ak, hak⟩ : ∃ ak : Bool, ak = (live && decide (v = 0)) := ⟨_, rfl⟩
      have go : LQ (WK L xs) (ev (WK L xs) (d + 2)) 147 10 [some (vr 22), some (vi o), some (vi (lv live)), some (vi v), some (vi (i : Int)), none, none] [] S = bindR (ev (WK L xs) (d + 2) 148 [vr 22, vi o, vi (lv ak)] T) (fun r1 S2 => LQ (WK L xs) (ev (WK L xs) (d + 2)) 147 10 [some (vr 22), some (vi o), some (vi (lv live)), some (vi (if ak = true then r1 else v)), some (vi ((i + 1 : Nat) : Int)), none, none] [] S2) := by
        rw [q_147_10, if_pos (by first | decide | omega), if_pos (s124.mpr hcc), t1, bR]
        cases hl : live with
        | false =>
          rw [hl] at hak
          rw [if_pos (show lv false = 0 from rfl), q_147_44, hak, e1]
          simp only [if_pos]
          rfl
        | true =>
          rw [hl] at hak
          rw [if_neg (show ¬ lv true = 0 by decide)]
          rcases hv with hv | hv
          · rw [if_pos hv, q_147_44, hak, e1, hv]
            rfl
          · rw [if_neg (by first | decide | omega), q_147_44, hak, e1, hv]
            simp only [if_pos]
            rfl
      have hF := xpar_ok (live := ak) hw hf t2
      revert hF
      cases hp : rowG t n isAnd pie (p + 1) with
      | inl e =>
        intro hF hl
        have ha : ak = false := by rw [hak, hl]; rfl
        obtain ⟨v2, U, u1, u2, u3⟩ := hF ha
        refine ⟨v, U, ?_, fun _ => hv, u3.of t3⟩
        rw [go, u1, bR, ha, if_neg (by decide)]
        exact cndD u3.dead _ _ _ _ hv
      | inr x =>
        obtain ⟨q, g2⟩ := x
        obtain ⟨o2, ho2⟩ := hw2 _ _ _ hp
        rintro ⟨v2, U, u1, u2, ⟨uG, uC, uv⟩ | ⟨ul, ug, uR⟩⟩
        · rw [u1, bR] at go
          have hv2 : (if ak = true then v2 else v) = 0 ∨ (if ak = true then v2 else v) = 1 := by
            by_cases z : ak = true
            · rw [if_pos z]
              exact u2 rfl
            · rw [if_neg z]
              exact hv
          refine CR.of (t3.tr uC) go (ih (i + 1) q _ _ U (by first | decide | omega) uG hv2 (fun hl => ?_))
          by_cases z : ak = true
          · have := (hg hl).bin (uv z) (or_3 _ c)
            have v0 : v = 0 := by
              rw [hak, hl] at z
              simpa using z
            rw [if_pos z]
            rw [v0, hcc, show opA 124 (some 0) (some v2) = some v2 from rfl] at this
            rw [hcc]
            exact this
          · have v1 : v = 1 := by
              rcases hv with hv | hv
              · exact absurd (by rw [hak, hl, hv]; rfl) z
              · exact hv
            have := (hg hl).bin ho2 (or_3 _ c)
            rw [if_neg z, v1]
            rw [v1, hcc, show opA 124 (some 1) o2 = some 1 from rfl] at this
            rw [hcc]
            exact this
        · have hl : live = true := by
            rw [hak] at ul
            simp only [Bool.and_eq_true] at ul
            exact ul.1
          have v0 : v = 0 := by
            rw [hak, hl] at ul
            simpa using ul
          have hg3 : Cmp le ud (g ++ g2 ++ [(cu t n p, 0)]) none := by
            have := (hg hl).bin ug (or_3 _ c)
            rw [v0, hcc, show opA 124 (some 0) none = none from rfl] at this
            rw [hcc]
            exact this
          rw [u1, bR, if_pos ul, cndD uR.dead _ _ _ _ (u2 rfl)] at go
          exact CR.ref hw2 or_3 hl go u2 (uR.of t3) hg3 k q
    · rw [if_neg c]
      have hcc : cu t n p ≠ 124 := of_decide_eq_false (nf c)
      exact ⟨v, S, by rw [q_147_10, if_pos (by first | decide | omega), if_neg (fun z => hcc (s124.mp z)), if_pos hv], fun _ => hv, Or.inl ⟨H, Cf.rf, hg⟩⟩
theorem xcnd_ok {pie : Nat → PR} {o : Int} (hw : WFp le ud pie) (hf : ∀ (lv' : Bool) (p : Nat) (S : AH), GS L xs t n le ud S p → CR L xs t n le ud lv' true S (ev (WK L xs) (d + 1) 149 [vr 22, vi o, vi (lv lv')] S) (pie p)) (H : GS L xs t n le ud S p) : CR L xs t n le ud live true S (ev (WK L xs) (d + 3) 147 [vr 22, vi o, vi (lv live)] S) (cndG t n pie p) := by
  have hw2 : WFp le ud (rowG t n isAnd pie) := rowG_wf hw and_3
  have hF := xpar_ok (live := live) hw hf H
  unfold cndG
  rw [show rowG t n isOr (rowG t n isAnd pie) p = (match rowG t n isAnd pie p with
    | .inl e => .inl e
    | .inr (q, g) => rowL t n isOr (rowG t n isAnd pie) 200 q g) from rfl]
  revert hF
  rw [q_147]
  cases rowG t n isAnd pie p with
  | inl e =>
    intro hF hl
    obtain ⟨v, T, t1, t2, t3⟩ := hF hl
    exact ⟨v, T, by rw [t1, bR]; exact cndD t3.dead _ _ _ _ (t2 rfl), t2, t3⟩
  | inr x =>
    obtain ⟨q, g⟩ := x
    rintro ⟨v, T, t1, t2, ⟨tG, tC, tv⟩ | ⟨tl, tg, tR⟩⟩
    · exact CR.of tC (by rw [t1, bR]; rfl) (xcnd_row hw hf 200 0 q g v T rfl tG (t2 rfl) tv)
    · exact CR.ref hw2 or_3 tl (by rw [t1, bR]; exact cndD tR.dead _ _ _ _ (t2 rfl)) t2 tR tg 200 q
end
