/-! sets of what is asked -/
theorem sm_le {f g : Nat → Int} : ∀ {n : Nat}, (∀ k, k < n → f k ≤ g k) → sm f n ≤ sm g n := by
  intro n
  induction n with
  | zero => intro _; exact Int.le_refl _
  | succ n ih =>
    intro h
    have h1 := ih (fun k hk => h k (by first | decide | omega))
    have h2 := h n (by first | decide | omega)
    unfold sm
    omega
theorem sm_cut {f : Nat → Int} {i : Nat} : ∀ {n : Nat}, i ≤ n → sm (fun k => if k < i then f k else 0) n = sm f i := by
  intro n
  induction n with
  | zero =>
    intro h
    have e : i = 0 := by omega
    subst e
    rfl
  | succ n ih =>
    intro h
    by_cases e : i = n + 1
    · subst e
      exact sm_congr (fun k hk => if_pos hk)
    · have e2 : sm (fun k => if k < i then f k else 0) (n + 1) = sm (fun k => if k < i then f k else 0) n + (if n < i then f n else 0) := rfl
      rw [e2, ih (by first | decide | omega), if_neg (by first | decide | omega)]
      omega
section
variable (h : Nat → Nat → Int)
noncomputable def nIt : Nat := (h 72 79).toNat
/-- the worth, the sum of a set -/
noncomputable def wS (s : Nat) : Int := sm (fun k => if s.testBit k then h 131 k else 0) (nIt h)
noncomputable def sS (s : Nat) : Int := sm (fun k => if s.testBit k then h 130 k else 0) (nIt h)
noncomputable def flO (s : Nat) : Prop := ∀ k, k < nIt h → h 132 k = 1 → s.testBit k = true
noncomputable def cnd (tot : Int) (s : Nat) : Prop := flO h s ∧ sS h s ≤ tot
/-- s is chosen before t -/
noncomputable def btr (s t : Nat) : Prop := wS h t < wS h s ∨ (wS h s = wS h t ∧ (sS h s < sS h t ∨ (sS h s = sS h t ∧ s < t)))
noncomputable def IsB (tot : Int) (A : Nat → Prop) (b : Int) : Prop := (b = -1 ∧ ∀ s, A s → ¬ cnd h tot s) ∨ ∃ m : Nat, b = m ∧ A m ∧ cnd h tot m ∧ ∀ s, A s → cnd h tot s → ¬ btr h s m
/-- the least sum of a set of more worth -/
noncomputable def IsL (bw : Int) (A : Nat → Prop) (v : Int) : Prop := (v = -1 ∧ ∀ s, A s → ¬ (flO h s ∧ bw < wS h s)) ∨ ∃ m : Nat, A m ∧ (flO h m ∧ bw < wS h m) ∧ v = sS h m ∧ ∀ s, A s → flO h s ∧ bw < wS h s → v ≤ sS h s
/-- the sets with P's bits from i on -/
noncomputable def Tr (P i s : Nat) : Prop := (∀ k, i ≤ k → s.testBit k = P.testBit k)
end
theorem IsB.one {h : Nat → Nat → Int} {tot : Int} {A : Nat → Prop} {b c : Int} (h1 : IsB h tot A b) (h2 : IsB h tot A c) : b = c := by
  rcases h1 with ⟨e1, q1⟩ | ⟨m, e1, a1, c1, q1⟩
  · rcases h2 with ⟨e2, -⟩ | ⟨m2, e2, a2, c2, -⟩
    · rw [e1, e2]
    · exact absurd c2 (q1 m2 a2)
  · rcases h2 with ⟨e2, q2⟩ | ⟨m2, e2, a2, c2, q2⟩
    · exact absurd c1 (q2 m a1)
    · have r1 := q1 m2 a2 c2
      have r2 := q2 m a1 c1
      unfold btr at r1 r2
      omega
theorem IsL.one {h : Nat → Nat → Int} {bw : Int} {A : Nat → Prop} {b c : Int} (h1 : IsL h bw A b) (h2 : IsL h bw A c) : b = c := by
  rcases h1 with ⟨e1, q1⟩ | ⟨m, a1, c1, e1, q1⟩
  · rcases h2 with ⟨e2, -⟩ | ⟨m2, a2, c2, e2, -⟩
    · rw [e1, e2]
    · exact absurd c2 (q1 m2 a2)
  · rcases h2 with ⟨e2, q2⟩ | ⟨m2, a2, c2, e2, q2⟩
    · exact absurd c1 (q2 m a1)
    · have r1 := q1 m2 a2 c2
      have r2 := q2 m a1 c1
      omega
theorem IsB.ext {h : Nat → Nat → Int} {tot : Int} {A B : Nat → Prop} {b : Int} (h1 : IsB h tot A b) (e : ∀ s, A s ↔ B s) : IsB h tot B b := by
  rcases h1 with ⟨e1, q1⟩ | ⟨m, e1, a1, c1, q1⟩
  · exact Or.inl ⟨e1, fun s hs => q1 s ((e s).mpr hs)⟩
  · exact Or.inr ⟨m, e1, (e m).mp a1, c1, fun s hs => q1 s ((e s).mpr hs)⟩
theorem IsL.ext {h : Nat → Nat → Int} {bw : Int} {A B : Nat → Prop} {b : Int} (h1 : IsL h bw A b) (e : ∀ s, A s ↔ B s) : IsL h bw B b := by
  rcases h1 with ⟨e1, q1⟩ | ⟨m, a1, c1, e1, q1⟩
  · exact Or.inl ⟨e1, fun s hs => q1 s ((e s).mpr hs)⟩
  · exact Or.inr ⟨m, (e m).mp a1, c1, e1, fun s hs => q1 s ((e s).mpr hs)⟩
/-- more sets, none of them better -/
theorem IsB.grow {h : Nat → Nat → Int} {tot : Int} {A B : Nat → Prop} {b : Int} (h1 : IsB h tot A b) (hB : ∀ s, B s → ¬ cnd h tot s ∨ ∃ m : Nat, b = m ∧ ¬ btr h s m) : IsB h tot (fun s => A s ∨ B s) b := by
  rcases h1 with ⟨e1, q1⟩ | ⟨m, e1, a1, c1, q1⟩
  · refine Or.inl ⟨e1, fun s hs => ?_⟩
    rcases hs with hs | hs
    · exact q1 s hs
    · rcases hB s hs with q | ⟨m, e2, -⟩
      · exact q
      · omega
  · refine Or.inr ⟨m, e1, Or.inl a1, c1, fun s hs hc => ?_⟩
    rcases hs with hs | hs
    · exact q1 s hs hc
    · rcases hB s hs with q | ⟨m2, e2, q⟩
      · exact absurd hc q
      · have : m2 = m := by omega
        rw [← this]
        exact q
/-- a better one -/
theorem IsB.take {h : Nat → Nat → Int} {tot : Int} {A : Nat → Prop} {b : Int} {s : Nat} (h1 : IsB h tot A b) (hc : cnd h tot s) (hb : b = -1 ∨ ∃ m : Nat, b = m ∧ btr h s m) : IsB h tot (fun t => A t ∨ t = s) s := by
  refine Or.inr ⟨s, rfl, Or.inr rfl, hc, fun t ht htc => ?_⟩
  rcases ht with ht | rfl
  · rcases h1 with ⟨e1, q1⟩ | ⟨m, e1, a1, c1, q1⟩
    · exact absurd htc (q1 t ht)
    · rcases hb with hb | ⟨m2, e2, hb⟩
      · omega
      · have : m2 = m := by omega
        subst this
        have := q1 t ht htc
        unfold btr at this hb ⊢
        omega
  · unfold btr
    omega
theorem IsL.grow {h : Nat → Nat → Int} {bw : Int} {A B : Nat → Prop} {v : Int} (h1 : IsL h bw A v) (hB : ∀ s, B s → ¬ (flO h s ∧ bw < wS h s) ∨ (v ≠ -1 ∧ v ≤ sS h s)) : IsL h bw (fun s => A s ∨ B s) v := by
  rcases h1 with ⟨e1, q1⟩ | ⟨m, a1, c1, e1, q1⟩
  · refine Or.inl ⟨e1, fun s hs => ?_⟩
    rcases hs with hs | hs
    · exact q1 s hs
    · rcases hB s hs with q | ⟨q, -⟩
      · exact q
      · exact absurd e1 q
  · refine Or.inr ⟨m, Or.inl a1, c1, e1, fun s hs hc => ?_⟩
    rcases hs with hs | hs
    · exact q1 s hs hc
    · rcases hB s hs with q | ⟨-, q⟩
      · exact absurd hc q
      · exact q
theorem IsL.take {h : Nat → Nat → Int} {bw : Int} {A : Nat → Prop} {v : Int} {s : Nat} (h0 : ∀ s, 0 ≤ sS h s) (h1 : IsL h bw A v) (hc : flO h s ∧ bw < wS h s) (hb : v = -1 ∨ sS h s < v) : IsL h bw (fun t => A t ∨ t = s) (sS h s) := by
  refine Or.inr ⟨s, Or.inr rfl, hc, rfl, fun t ht htc => ?_⟩
  rcases ht with ht | rfl
  · rcases h1 with ⟨e1, q1⟩ | ⟨m, a1, c1, e1, q1⟩
    · exact absurd htc (q1 t ht)
    · have := q1 t ht htc
      rcases hb with hb | hb
      · have := h0 m
        omega
      · omega
  · exact Int.le_refl _
/-- items' bounds -/
noncomputable def itB (h : Nat → Nat → Int) : Prop := nIt h ≤ 14 ∧ (∀ k, k < nIt h → 0 ≤ h 130 k ∧ h 130 k ≤ 1000000000) ∧ ∀ k, k < nIt h → 0 ≤ h 131 k ∧ h 131 k ≤ 1000000
theorem wS_bd {h : Nat → Nat → Int} (hb : itB h) (s : Nat) : 0 ≤ wS h s ∧ wS h s ≤ 14000000 := by
  have h1 := sm_bd (f := fun k => if s.testBit k then h 131 k else 0) (M := 1000000) (n := nIt h) (fun k hk => by
    have := hb.2.2 k hk
    split <;> omega)
  have h2 := hb.1
  unfold wS
  omega
theorem sS_bd {h : Nat → Nat → Int} (hb : itB h) (s : Nat) : 0 ≤ sS h s ∧ sS h s ≤ 14000000000 := by
  have h1 := sm_bd (f := fun k => if s.testBit k then h 130 k else 0) (M := 1000000000) (n := nIt h) (fun k hk => by
    have := hb.2.1 k hk
    split <;> omega)
  have h2 := hb.1
  unfold sS
  omega
/-- P has no bits below i -/
noncomputable def noLow (P i : Nat) : Prop := ∀ k, k < i → P.testBit k = false
theorem Tr_w {h : Nat → Nat → Int} (hb : itB h) {P i s : Nat} (hi : i ≤ nIt h) (hP : noLow P i) (hs : Tr P i s) : wS h s ≤ wS h P + sm (h 131) i := by
  rw [← sm_cut (f := h 131) hi]
  unfold wS
  rw [← sm_add]
  apply sm_le
  intro k hk
  have h1 := hb.2.2 k hk
  by_cases e : k < i
  · rw [if_pos e]
    split <;> split <;> omega
  · rw [hs k (by first | decide | omega), if_neg e]
    omega
theorem Tr_s {h : Nat → Nat → Int} (hb : itB h) {P i s : Nat} (hP : noLow P i) (hs : Tr P i s) : sS h P ≤ sS h s := by
  unfold sS
  apply sm_le
  intro k hk
  have h1 := hb.2.1 k hk
  by_cases e : k < i
  · rw [hP k e]
    split <;> simp at * <;> omega
  · rw [hs k (by first | decide | omega)]
    exact Int.le_refl _
theorem bit_set {P i : Nat} (h : P.testBit i = false) (k : Nat) : (P ||| 2 ^ i).testBit k = (decide (i = k) || P.testBit k) := by
  rw [Nat.testBit_or, Nat.testBit_two_pow, Bool.or_comm]
theorem with_w {h : Nat → Nat → Int} {P i : Nat} (hi : i < nIt h) (hp : P.testBit i = false) : wS h (P ||| 2 ^ i) = wS h P + h 131 i := by
  unfold wS
  rw [sm_one (f := fun k => if P.testBit k then h 131 k else 0) (c := i) hi (fun k hk hne => by rw [bit_set hp, decide_eq_false (fun z => hne z.symm), Bool.false_or])]
  rw [bit_set hp, hp]
  simp
theorem with_s {h : Nat → Nat → Int} {P i : Nat} (hi : i < nIt h) (hp : P.testBit i = false) : sS h (P ||| 2 ^ i) = sS h P + h 130 i := by
  unfold sS
  rw [sm_one (f := fun k => if P.testBit k then h 130 k else 0) (c := i) hi (fun k hk hne => by rw [bit_set hp, decide_eq_false (fun z => hne z.symm), Bool.false_or])]
  rw [bit_set hp, hp]
  simp
theorem Tr_split {P i : Nat} (hp : noLow P (i + 1)) (s : Nat) : Tr P (i + 1) s ↔ Tr (P ||| 2 ^ i) i s ∨ Tr P i s := by
  have hpi := hp i (by first | decide | omega)
  constructor
  · intro h
    cases hb : s.testBit i with
    | true =>
      refine Or.inl (fun k hk => ?_)
      rw [bit_set hpi]
      by_cases e : i = k
      · subst e
        rw [hb]
        simp
      · rw [decide_eq_false e, Bool.false_or]
        exact h k (by first | decide | omega)
    | false =>
      refine Or.inr (fun k hk => ?_)
      by_cases e : k = i
      · subst e
        rw [hb, hpi]
      · exact h k (by first | decide | omega)
  · rintro (h | h)
    · intro k hk
      rw [h k (by first | decide | omega), bit_set hpi, decide_eq_false (by first | decide | omega), Bool.false_or]
    · exact fun k hk => h k (by first | decide | omega)
theorem Tr_lt {P i : Nat} (hp : P.testBit i = false) {s m : Nat} (hs : Tr P i s) (hm : Tr (P ||| 2 ^ i) i m) : s < m := by
  have a0 : (s / 2 ^ i).testBit 0 = false := by rw [Nat.testBit_div_two_pow, Nat.zero_add, hs i (Nat.le_refl _), hp]
  have b0 : (m / 2 ^ i).testBit 0 = true := by
    rw [Nat.testBit_div_two_pow, Nat.zero_add, hm i (Nat.le_refl _), bit_set hp]
    simp
  have e : s / 2 ^ i / 2 = m / 2 ^ i / 2 := by
    apply Nat.eq_of_testBit_eq
    intro j
    rw [Nat.testBit_div_two, Nat.testBit_div_two, Nat.testBit_div_two_pow, Nat.testBit_div_two_pow, hs _ (by first | decide | omega), hm _ (by first | decide | omega), bit_set hp, decide_eq_false (by first | decide | omega), Bool.false_or]
  have a1 := Nat.mod_two_eq_zero_iff_testBit_zero.mpr a0
  have b1 := Nat.mod_two_eq_one_iff_testBit_zero.mpr b0
  rcases Nat.lt_or_ge s m with q | q
  · exact q
  · have := Nat.div_le_div_right (c := 2 ^ i) q
    omega
theorem Tr_0 {P s : Nat} : Tr P 0 s ↔ s = P := by
  constructor
  · intro h
    exact Nat.eq_of_testBit_eq (fun k => h k (Nat.zero_le _))
  · rintro rfl k _
    rfl
