/-! the reader by descent: how far it goes -/
noncomputable def Mon (part : Nat → PR) : Prop := ∀ (p q : Nat) (g : CD), part p = .inr (q, g) → p < q
section
variable {t : TB} {n : Nat} {is : Int → Bool} {part : Nat → PR}
theorem rowL_mon (h : Mon part) : ∀ (k p : Nat) (g : CD) (q : Nat) (g' : CD), rowL t n is part k p g = .inr (q, g') → p ≤ q := by
  intro k
  induction k with
  | zero =>
    intro p g q g' e
    simp only [rowL, Sum.inr.injEq, Prod.mk.injEq] at e
    omega
  | succ k ih =>
    intro p g q g' e
    unfold rowL at e
    by_cases c : is (cu t n p) = true
    · rw [if_pos c] at e
      cases hp : part (p + 1) with
      | inl x => rw [hp] at e; cases e
      | inr x =>
        obtain ⟨r, g2⟩ := x
        rw [hp] at e
        have h1 := h _ _ _ hp
        have h2 := ih _ _ _ _ e
        omega
    · rw [if_neg c] at e
      simp only [Sum.inr.injEq, Prod.mk.injEq] at e
      omega
theorem rowL_ex (h : Mon part) (h0 : is 0 = false) : ∀ (k p : Nat) (g : CD) (q : Nat) (g' : CD), n ≤ p + k → rowL t n is part k p g = .inr (q, g') → is (cu t n q) = false := by
  intro k
  induction k with
  | zero =>
    intro p g q g' hn e
    simp only [rowL, Sum.inr.injEq, Prod.mk.injEq] at e
    rw [← e.1]
    unfold cu
    rw [if_neg (by first | decide | omega)]
    exact h0
  | succ k ih =>
    intro p g q g' hn e
    unfold rowL at e
    by_cases c : is (cu t n p) = true
    · rw [if_pos c] at e
      cases hp : part (p + 1) with
      | inl x => rw [hp] at e; cases e
      | inr x =>
        obtain ⟨r, g2⟩ := x
        rw [hp] at e
        have h1 := h _ _ _ hp
        exact ih _ _ _ _ (by first | decide | omega) e
    · rw [if_neg c] at e
      simp only [Sum.inr.injEq, Prod.mk.injEq] at e
      rw [← e.1]
      simpa using c
theorem rowL_P {P : Nat → Prop} (hp : ∀ (p q : Nat) (g : CD), part p = .inr (q, g) → P q) : ∀ (k p : Nat) (g : CD) (q : Nat) (g' : CD), P p → rowL t n is part k p g = .inr (q, g') → P q := by
  intro k
  induction k with
  | zero =>
    intro p g q g' h e
    simp only [rowL, Sum.inr.injEq, Prod.mk.injEq] at e
    rw [← e.1]
    exact h
  | succ k ih =>
    intro p g q g' h e
    unfold rowL at e
    by_cases c : is (cu t n p) = true
    · rw [if_pos c] at e
      cases hq : part (p + 1) with
      | inl x => rw [hq] at e; cases e
      | inr x =>
        obtain ⟨r, g2⟩ := x
        rw [hq] at e
        exact ih _ _ _ _ (hp _ _ _ hq) e
    · rw [if_neg c] at e
      simp only [Sum.inr.injEq, Prod.mk.injEq] at e
      rw [← e.1]
      exact h
theorem rowG_inr {p q : Nat} {g : CD} (e : rowG t n is part p = .inr (q, g)) : ∃ r g1, part p = .inr (r, g1) ∧ rowL t n is part 200 r g1 = .inr (q, g) := by
  unfold rowG at e
  cases hp : part p with
  | inl x => rw [hp] at e; cases e
  | inr x =>
    obtain ⟨r, g1⟩ := x
    rw [hp] at e
    exact ⟨r, g1, rfl, e⟩
theorem rowG_mon (h : Mon part) : Mon (rowG t n is part) := by
  intro p q g e
  obtain ⟨r, g1, h1, h2⟩ := rowG_inr e
  have := h _ _ _ h1
  have := rowL_mon h _ _ _ _ _ h2
  omega
theorem rowG_ex (h : Mon part) (h0 : is 0 = false) (hn : n ≤ 200) {p q : Nat} {g : CD} (e : rowG t n is part p = .inr (q, g)) : is (cu t n q) = false := by
  obtain ⟨r, g1, h1, h2⟩ := rowG_inr e
  exact rowL_ex h h0 _ _ _ _ _ (by first | decide | omega) h2
theorem rowG_P {P : Nat → Prop} (hp : ∀ (p q : Nat) (g : CD), part p = .inr (q, g) → P q) {p q : Nat} {g : CD} (e : rowG t n is part p = .inr (q, g)) : P q := by
  obtain ⟨r, g1, h1, h2⟩ := rowG_inr e
  exact rowL_P hp _ _ _ _ _ (hp _ _ _ h1) h2
theorem facG_mon {rec : Nat → Nat → PR} (h : ∀ o, Mon (rec o)) (o : Nat) : Mon (facG t n rec o) := by
  intro p q g e
  unfold facG at e
  by_cases c1 : cu t n p = 91
  · rw [if_pos c1] at e
    by_cases c2 : 8 ≤ o
    · rw [if_pos c2] at e
      cases e
    · rw [if_neg c2] at e
      cases hr : rec (o + 1) (p + 1) with
      | inl x => rw [hr] at e; cases e
      | inr x =>
        obtain ⟨r, g1⟩ := x
        rw [hr] at e
        have := h _ _ _ _ hr
        by_cases c3 : cu t n r = 93
        · simp only [c3, if_true, Sum.inr.injEq, Prod.mk.injEq] at e
          omega
        · simp only [c3, if_false] at e
          cases e
  · rw [if_neg c1] at e
    by_cases c2 : dgt (cu t n p) = true
    · rw [if_pos c2] at e
      cases hr : rdN t n 999999 p with
      | inl x => rw [hr] at e; cases e
      | inr x =>
        obtain ⟨r, v⟩ := x
        rw [hr] at e
        simp only [Sum.inr.injEq, Prod.mk.injEq] at e
        have := (rdN_lt hr).1
        omega
    · rw [if_neg c2] at e
      by_cases c3 : isVl (cu t n p) = true
      · rw [if_pos c3] at e
        simp only [Sum.inr.injEq, Prod.mk.injEq] at e
        omega
      · rw [if_neg c3] at e
        cases e
theorem terG_mon {rec : Nat → Nat → PR} (h : ∀ o, Mon (rec o)) (o : Nat) : Mon (terG t n rec o) := rowG_mon (facG_mon h o)
theorem rdE_mon (f : Nat) : ∀ o, Mon (rdE t n f o) := by
  induction f with
  | zero => intro o p q g e; cases e
  | succ f ih => intro o; exact rowG_mon (terG_mon ih o)
theorem terG_ex (hn : n ≤ 200) (f o : Nat) {p q : Nat} {g : CD} (e : terG t n (rdE t n f) o p = .inr (q, g)) : isTm (cu t n q) = false := rowG_ex (facG_mon (rdE_mon f) o) (by decide) hn e
theorem rdE_ex (hn : n ≤ 200) (f o : Nat) {p q : Nat} {g : CD} (e : rdE t n f o p = .inr (q, g)) : isTm (cu t n q) = false ∧ isPm (cu t n q) = false := by
  cases f with
  | zero => cases e
  | succ f =>
    have e' : rowG t n isPm (terG t n (rdE t n f) o) p = .inr (q, g) := e
    exact ⟨rowG_P (part := terG t n (rdE t n f) o) (P := fun q => isTm (cu t n q) = false) (fun p q g h => terG_ex hn f o h) e', rowG_ex (terG_mon (rdE_mon f) o) (by decide) hn e'⟩
theorem cmpG_mon (o : Nat) : Mon (cmpG t n o) := by
  intro p q g e
  unfold cmpG at e
  cases h1 : rdE t n 9 o p with
  | inl x => rw [h1] at e; cases e
  | inr x =>
    obtain ⟨r, g1⟩ := x
    rw [h1] at e
    have a1 := rdE_mon _ _ _ _ _ h1
    by_cases c : isSg (cu t n r) = true
    · simp only [c, if_true] at e
      cases h2 : rdE t n 9 o (r + 1) with
      | inl x => rw [h2] at e; cases e
      | inr x =>
        obtain ⟨r2, g2⟩ := x
        rw [h2] at e
        have a2 := rdE_mon _ _ _ _ _ h2
        simp only [Sum.inr.injEq, Prod.mk.injEq] at e
        omega
    · simp only [c] at e
      cases e
theorem pieG_mon {recP recC : Nat → Nat → PR} (hP : ∀ o, Mon (recP o)) (hC : ∀ o, Mon (recC o)) (o : Nat) : Mon (pieG t n recP recC o) := by
  intro p q g e
  unfold pieG at e
  by_cases c1 : cu t n p = 33
  · rw [if_pos c1] at e
    by_cases c2 : 8 ≤ o
    · rw [if_pos c2] at e
      cases e
    · rw [if_neg c2] at e
      cases hr : recP (o + 1) (p + 1) with
      | inl x => rw [hr] at e; cases e
      | inr x =>
        obtain ⟨r, g1⟩ := x
        rw [hr] at e
        have := hP _ _ _ _ hr
        simp only [Sum.inr.injEq, Prod.mk.injEq] at e
        omega
  · rw [if_neg c1] at e
    by_cases c3 : cu t n p = 40
    · rw [if_pos c3] at e
      by_cases c2 : 8 ≤ o
      · rw [if_pos c2] at e
        cases e
      · rw [if_neg c2] at e
        cases hr : recC (o + 1) (p + 1) with
        | inl x => rw [hr] at e; cases e
        | inr x =>
          obtain ⟨r, g1⟩ := x
          rw [hr] at e
          have := hC _ _ _ _ hr
          by_cases c4 : cu t n r = 41
          · simp only [c4, if_true, Sum.inr.injEq, Prod.mk.injEq] at e
            omega
          · simp only [c4, if_false] at e
            cases e
    · rw [if_neg c3] at e
      by_cases c5 : cu t n p = 117
      · rw [if_pos c5] at e
        cases hr : rdN t n 39 (p + 1) with
        | inl x => rw [hr] at e; cases e
        | inr x =>
          obtain ⟨r, v⟩ := x
          rw [hr] at e
          simp only [Sum.inr.injEq, Prod.mk.injEq] at e
          have := (rdN_lt hr).1
          omega
      · rw [if_neg c5] at e
        exact cmpG_mon _ _ _ _ e
theorem cndG_mon {pie : Nat → PR} (h : Mon pie) : Mon (cndG t n pie) := rowG_mon (rowG_mon h)
theorem rdP_mon (f : Nat) : ∀ o, Mon (rdP t n f o) := by
  induction f with
  | zero => intro o p q g e; cases e
  | succ f ih => intro o; exact pieG_mon ih (fun o => cndG_mon (ih o)) o
theorem parG_ex {pie : Nat → PR} (h : Mon pie) (hn : n ≤ 200) {p q : Nat} {g : CD} (e : rowG t n isAnd pie p = .inr (q, g)) : cu t n q ≠ 38 := by
  have := rowG_ex h (by decide) hn e
  unfold isAnd at this
  exact of_decide_eq_false this
theorem cndG_ex {pie : Nat → PR} (h : Mon pie) (hn : n ≤ 200) {p q : Nat} {g : CD} (e : cndG t n pie p = .inr (q, g)) : cu t n q ≠ 38 ∧ cu t n q ≠ 124 := by
  have h2 := rowG_ex (rowG_mon h) (by decide) hn e
  unfold isOr at h2
  exact ⟨rowG_P (P := fun q => cu t n q ≠ 38) (fun p q g x => parG_ex h hn x) e, of_decide_eq_false h2⟩
end
