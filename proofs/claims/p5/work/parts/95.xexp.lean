/-! what a code reckons; none: refused -/
noncomputable def wkA (c x y : Int) : Int := if c = 43 then w64 (x + y) else if c = 45 then w64 (x - y) else if c = 42 then w64 (x * y) else if c = 47 then ldiv x y else if c = 37 then Int.tmod x y else if c = 60 then bi (x < y) else if c = 62 then bi (y < x) else bi (x = y)
noncomputable def opA (c : Int) (a b : Option Int) : Option Int := match a with
  | none => none
  | some x => if c = 38 then (if x = 1 then b else some x) else if c = 124 then (if x = 0 then b else some x) else (match b with
    | none => none
    | some y => if (c = 47 ∨ c = 37) ∧ y = 0 then none else some (wkA c x y))
noncomputable def stA (le : Int → Int) (ud : Int → Bool) (c a : Int) (s : List (Option Int)) : Option (List (Option Int)) := if 3 < c then (match s with
    | b :: x :: r => some (opA c x b :: r)
    | _ => none) else if c = 3 then (match s with
    | x :: r => some (x.map (fun v => w64 (1 - v)) :: r)
    | [] => none) else if c = 0 then some (some a :: s) else if c = 1 then some (some (le a) :: s) else if 0 ≤ a then some (some (if ud a then 1 else 0) :: s) else none
noncomputable def rnA (le : Int → Int) (ud : Int → Bool) : CD → List (Option Int) → Option (List (Option Int))
  | [], s => some s
  | (c, a) :: r, s => match stA le ud c a s with
    | none => none
    | some s' => rnA le ud r s'
noncomputable def Cmp (le : Int → Int) (ud : Int → Bool) (g : CD) (o : Option Int) : Prop := ∀ s, rnA le ud g s = some (o :: s)
noncomputable def WFp (le : Int → Int) (ud : Int → Bool) (part : Nat → PR) : Prop := ∀ (p q : Nat) (g : CD), part p = .inr (q, g) → ∃ o, Cmp le ud g o
section
variable {le : Int → Int} {ud : Int → Bool} {t : TB} {n : Nat} {is : Int → Bool} {part : Nat → PR}
theorem rnA_app (g h : CD) (s : List (Option Int)) : rnA le ud (g ++ h) s = match rnA le ud g s with
    | none => none
    | some s' => rnA le ud h s' := by
  induction g generalizing s with
  | nil => rfl
  | cons x g ih =>
    obtain ⟨c, a⟩ := x
    show (match stA le ud c a s with
      | none => none
      | some s' => rnA le ud (g ++ h) s') = match (match stA le ud c a s with
      | none => none
      | some s' => rnA le ud g s') with
      | none => none
      | some s' => rnA le ud h s'
    cases stA le ud c a s with
    | none => rfl
    | some s' => exact ih s'
theorem Cmp.bin {g g2 : CD} {a b : Option Int} (h1 : Cmp le ud g a) (h2 : Cmp le ud g2 b) {c : Int} (hc : 3 < c) : Cmp le ud (g ++ g2 ++ [(c, 0)]) (opA c a b) := by
  intro s
  rw [rnA_app, rnA_app, h1]
  dsimp only
  rw [h2]
  dsimp only
  show (match stA le ud c 0 (b :: a :: s) with
    | none => none
    | some s' => some s') = _
  unfold stA
  rw [if_pos hc]
theorem Cmp.neg {g : CD} {a : Option Int} (h1 : Cmp le ud g a) : Cmp le ud (g ++ [(3, 0)]) (a.map (fun v => w64 (1 - v))) := by
  intro s
  rw [rnA_app, h1]
  rfl
theorem Cmp.num (v : Int) : Cmp le ud [(0, v)] (some v) := fun s => rfl
theorem Cmp.let (c : Int) : Cmp le ud [(1, c)] (some (le c)) := fun s => rfl
theorem Cmp.und {c : Int} (h : 0 ≤ c) : Cmp le ud [(2, c)] (some (if ud c then 1 else 0)) := fun s => by
  show (match stA le ud 2 c s with
    | none => none
    | some s' => some s') = _
  unfold stA
  rw [if_neg (by decide), if_neg (by decide), if_neg (by decide), if_neg (by decide), if_pos h]
theorem opA_none (c : Int) (b : Option Int) : opA c none b = none := rfl
theorem rowL_wf (h : WFp le ud part) (hi : ∀ c, is c = true → 3 < c) : ∀ (k p : Nat) (g : CD) (q : Nat) (g' : CD), (∃ o, Cmp le ud g o) → rowL t n is part k p g = .inr (q, g') → ∃ o, Cmp le ud g' o := by
  intro k
  induction k with
  | zero =>
    intro p g q g' ho e
    simp only [rowL, Sum.inr.injEq, Prod.mk.injEq] at e
    rw [← e.2]
    exact ho
  | succ k ih =>
    intro p g q g' ho e
    unfold rowL at e
    by_cases c : is (cu t n p) = true
    · rw [if_pos c] at e
      cases hp : part (p + 1) with
      | inl x => rw [hp] at e; cases e
      | inr x =>
        obtain ⟨r, g2⟩ := x
        rw [hp] at e
        obtain ⟨o, ho⟩ := ho
        obtain ⟨o2, ho2⟩ := h _ _ _ hp
        exact ih _ _ _ _ ⟨_, ho.bin ho2 (hi _ c)⟩ e
    · rw [if_neg c] at e
      simp only [Sum.inr.injEq, Prod.mk.injEq] at e
      rw [← e.2]
      exact ho
theorem rowL_none (h : WFp le ud part) (hi : ∀ c, is c = true → 3 < c) : ∀ (k p : Nat) (g : CD) (q : Nat) (g' : CD), Cmp le ud g none → rowL t n is part k p g = .inr (q, g') → Cmp le ud g' none := by
  intro k
  induction k with
  | zero =>
    intro p g q g' ho e
    simp only [rowL, Sum.inr.injEq, Prod.mk.injEq] at e
    rw [← e.2]
    exact ho
  | succ k ih =>
    intro p g q g' ho e
    unfold rowL at e
    by_cases c : is (cu t n p) = true
    · rw [if_pos c] at e
      cases hp : part (p + 1) with
      | inl x => rw [hp] at e; cases e
      | inr x =>
        obtain ⟨r, g2⟩ := x
        rw [hp] at e
        obtain ⟨o2, ho2⟩ := h _ _ _ hp
        exact ih _ _ _ _ (ho.bin ho2 (hi _ c)) e
    · rw [if_neg c] at e
      simp only [Sum.inr.injEq, Prod.mk.injEq] at e
      rw [← e.2]
      exact ho
theorem rowG_wf (h : WFp le ud part) (hi : ∀ c, is c = true → 3 < c) : WFp le ud (rowG t n is part) := by
  intro p q g e
  obtain ⟨r, g1, h1, h2⟩ := rowG_inr e
  exact rowL_wf h hi _ _ _ _ _ (h _ _ _ h1) h2
theorem tm_3 (c : Int) (h : isTm c = true) : 3 < c := by
  have := of_decide_eq_true h
  omega
theorem pm_3 (c : Int) (h : isPm c = true) : 3 < c := by
  have := of_decide_eq_true h
  omega
theorem sg_3 (c : Int) (h : isSg c = true) : 3 < c := by
  have := of_decide_eq_true h
  omega
theorem and_3 (c : Int) (h : isAnd c = true) : 3 < c := by
  have := of_decide_eq_true h
  omega
theorem or_3 (c : Int) (h : isOr c = true) : 3 < c := by
  have := of_decide_eq_true h
  omega
theorem facG_wf {rec : Nat → Nat → PR} (h : ∀ o, WFp le ud (rec o)) (o : Nat) : WFp le ud (facG t n rec o) := by
  intro p q g e
  unfold facG at e
  by_cases c1 : cu t n p = 91
  · rw [if_pos c1] at e
    by_cases c2 : 8 ≤ o
    · rw [if_pos c2] at e
      cases e
    · rw [if_neg c2] at e
      cases hr : rec (o + 1) (p + 1) with
      | inl x => rw [hr] at e; cases e
      | inr x =>
        obtain ⟨r, g1⟩ := x
        rw [hr] at e
        have := h _ _ _ _ hr
        by_cases c3 : cu t n r = 93
        · simp only [c3, if_true, Sum.inr.injEq, Prod.mk.injEq] at e
          rw [← e.2]
          exact this
        · simp only [c3, if_false] at e
          cases e
  · rw [if_neg c1] at e
    by_cases c2 : dgt (cu t n p) = true
    · rw [if_pos c2] at e
      cases hr : rdN t n 999999 p with
      | inl x => rw [hr] at e; cases e
      | inr x =>
        obtain ⟨r, v⟩ := x
        rw [hr] at e
        simp only [Sum.inr.injEq, Prod.mk.injEq] at e
        rw [← e.2]
        exact ⟨_, Cmp.num v⟩
    · rw [if_neg c2] at e
      by_cases c3 : isVl (cu t n p) = true
      · rw [if_pos c3] at e
        simp only [Sum.inr.injEq, Prod.mk.injEq] at e
        rw [← e.2]
        exact ⟨_, Cmp.let _⟩
      · rw [if_neg c3] at e
        cases e
theorem terG_wf {rec : Nat → Nat → PR} (h : ∀ o, WFp le ud (rec o)) (o : Nat) : WFp le ud (terG t n rec o) := rowG_wf (facG_wf h o) tm_3
theorem rdE_wf (f : Nat) : ∀ o, WFp le ud (rdE t n f o) := by
  induction f with
  | zero => intro o p q g e; cases e
  | succ f ih => intro o; exact rowG_wf (terG_wf ih o) pm_3
end
/-- what the class answers where the descent answers r -/
noncomputable def lv (live : Bool) : Int := if live then 1 else 0
noncomputable def CR (L : Nat) (xs : Nat → Int) (t : TB) (n : Nat) (le : Int → Int) (ud : Int → Bool) (live bl : Bool) (S : AH) (res : Rs) (r : PR) : Prop := match r with
  | .inl e => live = false → ∃ v T, res = some (v, T) ∧ (bl = true → v = 0 ∨ v = 1) ∧ FS S T e
  | .inr (q, g) => ∃ v T, res = some (v, T) ∧ (bl = true → v = 0 ∨ v = 1) ∧ ((GS L xs t n le ud T q ∧ Cf S T ∧ (live = true → Cmp le ud g (some v))) ∨ (live = true ∧ Cmp le ud g none ∧ Rf S T))
section
variable {L : Nat} {xs : Nat → Int} {d : Nat} {S S' T U W : AH} {t : TB} {n p : Nat} {le : Int → Int} {ud : Int → Bool} {live bl : Bool}
theorem CR.of (h : Cf S T) {X Y : Rs} (e : X = Y) {r : PR} (k : CR L xs t n le ud live bl T Y r) : CR L xs t n le ud live bl S X r := by
  revert k
  cases r with
  | inl x =>
    intro k q
    obtain ⟨v, U, u1, u2, u3⟩ := k q
    exact ⟨v, U, e.trans u1, u2, u3.of h⟩
  | inr x =>
    obtain ⟨q, g⟩ := x
    rintro ⟨v, U, u1, u2, u3 | u3⟩
    · exact ⟨v, U, e.trans u1, u2, Or.inl ⟨u3.1, h.tr u3.2.1, u3.2.2⟩⟩
    · exact ⟨v, U, e.trans u1, u2, Or.inr ⟨u3.1, u3.2.1, u3.2.2.of h⟩⟩
/-- a row behind what was refused -/
theorem CR.ref {is : Int → Bool} {part : Nat → PR} (hw : WFp le ud part) (hi : ∀ c, is c = true → 3 < c) (hl : live = true) {v : Int} {X : Rs} (hX : X = some (v, T)) (hv : bl = true → v = 0 ∨ v = 1) (hR : Rf S T) {g : CD} (hg : Cmp le ud g none) (k q : Nat) : CR L xs t n le ud live bl S X (rowL t n is part k q g) := by
  cases hr : rowL t n is part k q g with
  | inl e => exact fun z => absurd (z.symm.trans hl) (by decide)
  | inr x =>
    obtain ⟨q3, g3⟩ := x
    exact ⟨v, T, hX, hv, Or.inr ⟨hl, rowL_none hw hi _ _ _ _ _ hg hr, hR⟩⟩
theorem CR.bad {e : Int} {v : Int} {X : Rs} (hX : X = some (v, T)) (hv : bl = true → v = 0 ∨ v = 1) (hF : FS S T e) : CR L xs t n le ud live bl S X (.inl e) := fun _ => ⟨v, T, hX, hv, hF⟩
theorem bl0 {v : Int} : (false = true → v = 0 ∨ v = 1) := fun h => absurd h (by decide)
theorem lcz {v : Int} : lcmp v 0 = 0 ↔ v = 0 := lc_eq
theorem terD (h : Dead S) (o l v i : Int) (hd : 0 ≤ i) : LQ (WK L xs) (ev (WK L xs) (d + 6)) 152 10 [some (vr 22), some (vi o), some (vi l), some (vl v), none, some (vi i), none, none, none] [] S = some (v, S) := by
  rw [q_152_10]
  by_cases q : i < 200
  · rw [if_pos q, x_next7 h.1 (by decide), bR, bi_F (by decide), if_pos rfl]
  · rw [if_neg q]
theorem expD (h : Dead S) (o l v i : Int) : LQ (WK L xs) (ev (WK L xs) d) 151 10 [some (vr 22), some (vi o), some (vi l), some (vl v), none, some (vi i), none, none, none] [] S = some (v, S) := by
  rw [q_151_10, h.1]
  by_cases q : i < 200
  · rw [if_pos q, if_neg (by decide), if_neg (by decide)]
  · rw [if_neg q]
theorem Rf.ag (h : Rf S T) : Rf S (wr (wr T 22 9 1) 22 6 (-1)) := ⟨(h.1.tr (Cf.w (by first | decide | omega))).tr (Cf.w (by first | decide | omega)), by rw [wr_f, if_pos rfl], by rw [wr_f, if_neg (by decide), wr_f, if_pos rfl], by rw [wr_f, if_neg (by decide), wr_f, if_neg (by decide), h.2.2.2]⟩
theorem GS.ref (H : GS L xs t n le ud T p) (h : Cf S T) : Rf S (wr (wr T 22 9 1) 22 6 (-1)) := ⟨(h.tr (Cf.w (by first | decide | omega))).tr (Cf.w (by first | decide | omega)), by rw [wr_f, if_pos rfl], by rw [wr_f, if_neg (by decide), wr_f, if_pos rfl], by rw [wr_f, if_neg (by decide), wr_f, if_neg (by decide), H.2.2.2.2.1]⟩
theorem xter_row (f o : Nat) (hf : ∀ (p : Nat) (S : AH), GS L xs t n le ud S p → CR L xs t n le ud live false S (ev (WK L xs) (d + 6) 153 [vr 22, vi (o : Int), vi (lv live)] S) (facG t n (rdE t n f) o p)) : ∀ (k i p : Nat) (g : CD) (v : Int) (S : AH), i + k = 200 → GS L xs t n le ud S p → (live = true → Cmp le ud g (some v)) → CR L xs t n le ud live false S (LQ (WK L xs) (ev (WK L xs) (d + 6)) 152 10 [some (vr 22), some (vi (o : Int)), some (vi (lv live)), some (vl v), none, some (vi (i : Int)), none, none, none] [] S) (rowL t n isTm (facG t n (rdE t n f) o) k p g) := by
  have hw : WFp le ud (facG t n (rdE t n f) o) := facG_wf (rdE_wf f) o
  intro k
  induction k with
  | zero =>
    intro i p g v S hi H hg
    exact ⟨v, S, by rw [q_152_10, if_neg (by first | decide | omega)], bl0, Or.inl ⟨H, Cf.rf, hg⟩⟩
  | succ k ih =>
    intro i p g v S hi H hg
    have hb := sgn_b (n := n) (p := p) H.1.2.1
    have e1 : w32 ((i : Int) + 1) = ((i + 1 : Nat) : Int) := by
      rw [w32e (by first | decide | omega) (by first | decide | omega)]
      rfl
    unfold rowL
    by_cases c : isTm (cu t n p) = true
    · rw [if_pos c]
      have hlt := cu_pos (t := t) (n := n) (p := p) (by have := tm_3 _ c; omega)
      obtain ⟨T, t1, t2, t3⟩ := x_step (L := L) (xs := xs) (d := d + 5) H hlt
      have hcc := of_decide_eq_true c
      have go : LQ (WK L xs) (ev (WK L xs) (d + 6)) 152 10 [some (vr 22), some (vi (o : Int)), some (vi (lv live)), some (vl v), none, some (vi (i : Int)), none, none, none] [] S = bindR (ev (WK L xs) (d + 6) 153 [vr 22, vi (o : Int), vi (lv live)] T) (fun r5 S6 => (if cu t n p = (42 : Int) then (LQ (WK L xs) (ev (WK L xs) (d + 6)) 152 10 [some (vr 22), some (vi (o : Int)), some (vi (lv live)), some (vl (w64 (v * r5))), none, some (vi ((i + 1 : Nat) : Int)), none, none, none] [] S6) else (if r5 = 0 then (if lv live = 0 then (LQ (WK L xs) (ev (WK L xs) (d + 6)) 152 10 [some (vr 22), some (vi (o : Int)), some (vi (lv live)), some (vl v), none, some (vi ((i + 1 : Nat) : Int)), none, none, none] [] S6) else (LQ (WK L xs) (ev (WK L xs) (d + 6)) 152 10 [some (vr 22), some (vi (o : Int)), some (vi (lv live)), some (vl v), none, some (vi ((i + 1 : Nat) : Int)), none, none, none] [] (wr (wr S6 22 9 1) 22 6 (-1)))) else (if cu t n p = (47 : Int) then (if r5 = 0 then none else (LQ (WK L xs) (ev (WK L xs) (d + 6)) 152 10 [some (vr 22), some (vi (o : Int)), some (vi (lv live)), some (vl (ldiv v r5)), none, some (vi ((i + 1 : Nat) : Int)), none, none, none] [] S6)) else (if r5 = 0 then none else (LQ (WK L xs) (ev (WK L xs) (d + 6)) 152 10 [some (vr 22), some (vi (o : Int)), some (vi (lv live)), some (vl (Int.tmod v r5)), none, some (vi ((i + 1 : Nat) : Int)), none, none, none] [] S6)))))) := by
        rw [q_152_10, if_pos (by first | decide | omega), x_next7 H.2.2.2.1 hb, sgn_tm, bi_T c, bR, if_neg (by decide), t1, bR, H.2.2.2.1, cu_sgn hlt, e1]
        simp only [lcz]
      have hF := hf _ _ t2
      revert hF
      cases hp : facG t n (rdE t n f) o (p + 1) with
      | inl e =>
        intro hF hl
        obtain ⟨v2, U, u1, -, u3⟩ := hF hl
        have D := u3.dead
        have hl0 : lv live = 0 := by rw [hl]; rfl
        refine (fun (⟨w, hw⟩ : ∃ w, LQ (WK L xs) (ev (WK L xs) (d + 6)) 152 10 [some (vr 22), some (vi (o : Int)), some (vi (lv live)), some (vl v), none, some (vi (i : Int)), none, none, none] [] S = some (w, U)) => ⟨w, U, hw, bl0, u3.of t3⟩) ?_
        rw [go, u1, bR]
        simp only [terD D _ _ _ _ (Int.natCast_nonneg _)]
        by_cases q1 : cu t n p = 42
        · rw [if_pos q1]
          exact ⟨_, rfl⟩
        · rw [if_neg q1]
          by_cases q2 : v2 = 0
          · rw [if_pos q2, if_pos hl0]
            exact ⟨_, rfl⟩
          · rw [if_neg q2, if_neg q2, if_neg q2]
            by_cases q3 : cu t n p = 47
            · rw [if_pos q3]
              exact ⟨_, rfl⟩
            · rw [if_neg q3]
              exact ⟨_, rfl⟩
      | inr x =>
        obtain ⟨q, g2⟩ := x
        rintro ⟨v2, U, u1, -, ⟨uG, uC, uv⟩ | ⟨ul, ug, uR⟩⟩
        · rw [u1, bR] at go
          show CR L xs t n le ud live false S _ (rowL t n isTm (facG t n (rdE t n f) o) k q (g ++ g2 ++ [(cu t n p, 0)]))
          have nx : ∀ w : Int, (live = true → opA (cu t n p) (some v) (some v2) = some w) → LQ (WK L xs) (ev (WK L xs) (d + 6)) 152 10 [some (vr 22), some (vi (o : Int)), some (vi (lv live)), some (vl v), none, some (vi (i : Int)), none, none, none] [] S = LQ (WK L xs) (ev (WK L xs) (d + 6)) 152 10 [some (vr 22), some (vi (o : Int)), some (vi (lv live)), some (vl w), none, some (vi ((i + 1 : Nat) : Int)), none, none, none] [] U → CR L xs t n le ud live false S (LQ (WK L xs) (ev (WK L xs) (d + 6)) 152 10 [some (vr 22), some (vi (o : Int)), some (vi (lv live)), some (vl v), none, some (vi (i : Int)), none, none, none] [] S) (rowL t n isTm (facG t n (rdE t n f) o) k q (g ++ g2 ++ [(cu t n p, 0)])) := fun w hw2 he => CR.of (t3.tr uC) he (ih (i + 1) q _ w U (by first | decide | omega) uG (fun hl => by rw [← hw2 hl]; exact (hg hl).bin (uv hl) (tm_3 _ c)))
          by_cases q1 : cu t n p = 42
          · rw [if_pos q1] at go
            exact nx _ (fun _ => by rw [q1]; rfl) go
          · rw [if_neg q1] at go
            by_cases q2 : v2 = 0
            · rw [if_pos q2] at go
              by_cases hl : live = true
              · rw [if_neg (by rw [hl]; decide)] at go
                have R := uG.ref (t3.tr uC)
                rw [terD R.dead _ _ _ _ (Int.natCast_nonneg _)] at go
                refine CR.ref hw tm_3 hl go bl0 R ?_ k q
                have := (hg hl).bin (uv hl) (tm_3 _ c)
                rw [show opA (cu t n p) (some v) (some v2) = none by
                  show (if cu t n p = 38 then _ else if cu t n p = 124 then _ else if (cu t n p = 47 ∨ cu t n p = 37) ∧ v2 = 0 then none else some (wkA (cu t n p) v v2)) = none
                  rw [if_neg (by first | decide | omega), if_neg (by first | decide | omega), if_pos ⟨by omega, q2⟩]] at this
                exact this
              · rw [if_pos (by rw [nf hl]; rfl)] at go
                exact nx _ (fun z => absurd z hl) go
            · rw [if_neg q2, if_neg q2, if_neg q2] at go
              have hop : opA (cu t n p) (some v) (some v2) = some (wkA (cu t n p) v v2) := by
                show (if cu t n p = 38 then _ else if cu t n p = 124 then _ else if (cu t n p = 47 ∨ cu t n p = 37) ∧ v2 = 0 then none else some (wkA (cu t n p) v v2)) = _
                rw [if_neg (by first | decide | omega), if_neg (by first | decide | omega), if_neg (fun z => q2 z.2)]
              by_cases q3 : cu t n p = 47
              · rw [if_pos q3] at go
                exact nx _ (fun _ => by rw [hop, q3]; rfl) go
              · rw [if_neg q3] at go
                exact nx _ (fun _ => by rw [hop, show cu t n p = 37 by omega]; rfl) go
        · rw [u1, bR] at go
          have D := uR.dead
          have hl1 : ¬ lv live = 0 := by rw [ul]; decide
          have hg3 : Cmp le ud (g ++ g2 ++ [(cu t n p, 0)]) none := by
            have := (hg ul).bin ug (tm_3 _ c)
            rw [show opA (cu t n p) (some v) none = none by
              show (if cu t n p = 38 then _ else if cu t n p = 124 then _ else none) = none
              rw [if_neg (by first | decide | omega), if_neg (by first | decide | omega)]] at this
            exact this
          show CR L xs t n le ud live false S _ (rowL t n isTm (facG t n (rdE t n f) o) k q (g ++ g2 ++ [(cu t n p, 0)]))
          simp only [terD D _ _ _ _ (Int.natCast_nonneg _), terD uR.ag.dead _ _ _ _ (Int.natCast_nonneg _)] at go
          by_cases q1 : cu t n p = 42
          · rw [if_pos q1] at go
            exact CR.ref hw tm_3 ul go bl0 (uR.of t3) hg3 k q
          · rw [if_neg q1] at go
            by_cases q2 : v2 = 0
            · rw [if_pos q2, if_neg hl1] at go
              exact CR.ref hw tm_3 ul go bl0 (uR.ag.of t3) hg3 k q
            · rw [if_neg q2, if_neg q2, if_neg q2] at go
              by_cases q3 : cu t n p = 47
              · rw [if_pos q3] at go
                exact CR.ref hw tm_3 ul go bl0 (uR.of t3) hg3 k q
              · rw [if_neg q3] at go
                exact CR.ref hw tm_3 ul go bl0 (uR.of t3) hg3 k q
    · rw [if_neg c]
      exact ⟨v, S, by rw [q_152_10, if_pos (by first | decide | omega), x_next7 H.2.2.2.1 hb, sgn_tm, bi_F c, bR, if_pos rfl], bl0, Or.inl ⟨H, Cf.rf, hg⟩⟩
end
