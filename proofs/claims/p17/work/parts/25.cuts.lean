section
-- 25.cuts
/-! sets of what is asked -/
theorem sm_le {f g : Nat → Int} : ∀ {n : Nat}, (∀ k, k < n → f k ≤ g k) → sm f n ≤ sm g n := by
  intro n
  induction n with
  | zero => intro _; exact Int.le_refl _
  | succ n ih =>
    intro h
    have h1 := ih (fun k hk => h k (by first | decide | omega))
    have h2 := h n (by first | decide | omega)
    unfold sm
    omega
theorem sm_cut {f : Nat → Int} {i : Nat} : ∀ {n : Nat}, i ≤ n → sm (fun k => if k < i then f k else 0) n = sm f i := by
  intro n
  induction n with
  | zero =>
    intro h
    have e : i = 0 := by omega
    subst e
    rfl
  | succ n ih =>
    intro h
    by_cases e : i = n + 1
    · subst e
      exact sm_congr (fun k hk => if_pos hk)
    · have e2 : sm (fun k => if k < i then f k else 0) (n + 1) = sm (fun k => if k < i then f k else 0) n + (if n < i then f n else 0) := rfl
      rw [e2, ih (by first | decide | omega), if_neg (by first | decide | omega)]
      omega
section
variable (h : Nat → Nat → Int)
noncomputable def nIt : Nat := (h 72 79).toNat
/-- the worth, the sum of a set -/
noncomputable def wS (s : Nat) : Int := sm (fun k => if s.testBit k then h 131 k else 0) (nIt h)
noncomputable def sS (s : Nat) : Int := sm (fun k => if s.testBit k then h 130 k else 0) (nIt h)
noncomputable def flO (s : Nat) : Prop := ∀ k, k < nIt h → h 132 k = 1 → s.testBit k = true
noncomputable def cnd (tot : Int) (s : Nat) : Prop := flO h s ∧ sS h s ≤ tot
/-- s is chosen before t -/
noncomputable def btr (s t : Nat) : Prop := wS h t < wS h s ∨ (wS h s = wS h t ∧ (sS h s < sS h t ∨ (sS h s = sS h t ∧ s < t)))
noncomputable def IsB (tot : Int) (A : Nat → Prop) (b : Int) : Prop := (b = -1 ∧ ∀ s, A s → ¬ cnd h tot s) ∨ ∃ m : Nat, b = m ∧ A m ∧ cnd h tot m ∧ ∀ s, A s → cnd h tot s → ¬ btr h s m
/-- the least sum of a set of more worth -/
noncomputable def IsL (bw : Int) (A : Nat → Prop) (v : Int) : Prop := (v = -1 ∧ ∀ s, A s → ¬ (flO h s ∧ bw < wS h s)) ∨ ∃ m : Nat, A m ∧ (flO h m ∧ bw < wS h m) ∧ v = sS h m ∧ ∀ s, A s → flO h s ∧ bw < wS h s → v ≤ sS h s
/-- the sets with P's bits from i on -/
noncomputable def Tr (P i s : Nat) : Prop := (∀ k, i ≤ k → s.testBit k = P.testBit k)
end
theorem IsB.one {h : Nat → Nat → Int} {tot : Int} {A : Nat → Prop} {b c : Int} (h1 : IsB h tot A b) (h2 : IsB h tot A c) : b = c := by
  rcases h1 with ⟨e1, q1⟩ | ⟨m, e1, a1, c1, q1⟩
  · rcases h2 with ⟨e2, -⟩ | ⟨m2, e2, a2, c2, -⟩
    · rw [e1, e2]
    · exact absurd c2 (q1 m2 a2)
  · rcases h2 with ⟨e2, q2⟩ | ⟨m2, e2, a2, c2, q2⟩
    · exact absurd c1 (q2 m a1)
    · have r1 := q1 m2 a2 c2
      have r2 := q2 m a1 c1
      unfold btr at r1 r2
      omega
theorem IsL.one {h : Nat → Nat → Int} {bw : Int} {A : Nat → Prop} {b c : Int} (h1 : IsL h bw A b) (h2 : IsL h bw A c) : b = c := by
  rcases h1 with ⟨e1, q1⟩ | ⟨m, a1, c1, e1, q1⟩
  · rcases h2 with ⟨e2, -⟩ | ⟨m2, a2, c2, e2, -⟩
    · rw [e1, e2]
    · exact absurd c2 (q1 m2 a2)
  · rcases h2 with ⟨e2, q2⟩ | ⟨m2, a2, c2, e2, q2⟩
    · exact absurd c1 (q2 m a1)
    · have r1 := q1 m2 a2 c2
      have r2 := q2 m a1 c1
      omega
theorem IsB.ext {h : Nat → Nat → Int} {tot : Int} {A B : Nat → Prop} {b : Int} (h1 : IsB h tot A b) (e : ∀ s, A s ↔ B s) : IsB h tot B b := by
  rcases h1 with ⟨e1, q1⟩ | ⟨m, e1, a1, c1, q1⟩
  · exact Or.inl ⟨e1, fun s hs => q1 s ((e s).mpr hs)⟩
  · exact Or.inr ⟨m, e1, (e m).mp a1, c1, fun s hs => q1 s ((e s).mpr hs)⟩
theorem IsL.ext {h : Nat → Nat → Int} {bw : Int} {A B : Nat → Prop} {b : Int} (h1 : IsL h bw A b) (e : ∀ s, A s ↔ B s) : IsL h bw B b := by
  rcases h1 with ⟨e1, q1⟩ | ⟨m, a1, c1, e1, q1⟩
  · exact Or.inl ⟨e1, fun s hs => q1 s ((e s).mpr hs)⟩
  · exact Or.inr ⟨m, (e m).mp a1, c1, e1, fun s hs => q1 s ((e s).mpr hs)⟩
/-- more sets, none of them better -/
theorem IsB.grow {h : Nat → Nat → Int} {tot : Int} {A B : Nat → Prop} {b : Int} (h1 : IsB h tot A b) (hB : ∀ s, B s → ¬ cnd h tot s ∨ ∃ m : Nat, b = m ∧ ¬ btr h s m) : IsB h tot (fun s => A s ∨ B s) b := by
  rcases h1 with ⟨e1, q1⟩ | ⟨m, e1, a1, c1, q1⟩
  · refine Or.inl ⟨e1, fun s hs => ?_⟩
    rcases hs with hs | hs
    · exact q1 s hs
    · rcases hB s hs with q | ⟨m, e2, -⟩
      · exact q
      · omega
  · refine Or.inr ⟨m, e1, Or.inl a1, c1, fun s hs hc => ?_⟩
    rcases hs with hs | hs
    · exact q1 s hs hc
    · rcases hB s hs with q | ⟨m2, e2, q⟩
      · exact absurd hc q
      · have : m2 = m := by omega
        rw [← this]
        exact q
/-- a better one -/
theorem IsB.take {h : Nat → Nat → Int} {tot : Int} {A : Nat → Prop} {b : Int} {s : Nat} (h1 : IsB h tot A b) (hc : cnd h tot s) (hb : b = -1 ∨ ∃ m : Nat, b = m ∧ btr h s m) : IsB h tot (fun t => A t ∨ t = s) s := by
  refine Or.inr ⟨s, rfl, Or.inr rfl, hc, fun t ht htc => ?_⟩
  rcases ht with ht | rfl
  · rcases h1 with ⟨e1, q1⟩ | ⟨m, e1, a1, c1, q1⟩
    · exact absurd htc (q1 t ht)
    · rcases hb with hb | ⟨m2, e2, hb⟩
      · omega
      · have : m2 = m := by omega
        subst this
        have := q1 t ht htc
        unfold btr at this hb ⊢
        omega
  · unfold btr
    omega
theorem IsL.grow {h : Nat → Nat → Int} {bw : Int} {A B : Nat → Prop} {v : Int} (h1 : IsL h bw A v) (hB : ∀ s, B s → ¬ (flO h s ∧ bw < wS h s) ∨ (v ≠ -1 ∧ v ≤ sS h s)) : IsL h bw (fun s => A s ∨ B s) v := by
  rcases h1 with ⟨e1, q1⟩ | ⟨m, a1, c1, e1, q1⟩
  · refine Or.inl ⟨e1, fun s hs => ?_⟩
    rcases hs with hs | hs
    · exact q1 s hs
    · rcases hB s hs with q | ⟨q, -⟩
      · exact q
      · exact absurd e1 q
  · refine Or.inr ⟨m, Or.inl a1, c1, e1, fun s hs hc => ?_⟩
    rcases hs with hs | hs
    · exact q1 s hs hc
    · rcases hB s hs with q | ⟨-, q⟩
      · exact absurd hc q
      · exact q
theorem IsL.take {h : Nat → Nat → Int} {bw : Int} {A : Nat → Prop} {v : Int} {s : Nat} (h0 : ∀ s, 0 ≤ sS h s) (h1 : IsL h bw A v) (hc : flO h s ∧ bw < wS h s) (hb : v = -1 ∨ sS h s < v) : IsL h bw (fun t => A t ∨ t = s) (sS h s) := by
  refine Or.inr ⟨s, Or.inr rfl, hc, rfl, fun t ht htc => ?_⟩
  rcases ht with ht | rfl
  · rcases h1 with ⟨e1, q1⟩ | ⟨m, a1, c1, e1, q1⟩
    · exact absurd htc (q1 t ht)
    · have := q1 t ht htc
      rcases hb with hb | hb
      · have := h0 m
        omega
      · omega
  · exact Int.le_refl _
/-- items' bounds -/
noncomputable def itB (h : Nat → Nat → Int) : Prop := nIt h ≤ 14 ∧ (∀ k, k < nIt h → 0 ≤ h 130 k ∧ h 130 k ≤ 1000000000) ∧ ∀ k, k < nIt h → 0 ≤ h 131 k ∧ h 131 k ≤ 1000000
theorem wS_bd {h : Nat → Nat → Int} (hb : itB h) (s : Nat) : 0 ≤ wS h s ∧ wS h s ≤ 14000000 := by
  have h1 := sm_bd (f := fun k => if s.testBit k then h 131 k else 0) (M := 1000000) (n := nIt h) (fun k hk => by
    have := hb.2.2 k hk
    split <;> omega)
  have h2 := hb.1
  unfold wS
  omega
theorem sS_bd {h : Nat → Nat → Int} (hb : itB h) (s : Nat) : 0 ≤ sS h s ∧ sS h s ≤ 14000000000 := by
  have h1 := sm_bd (f := fun k => if s.testBit k then h 130 k else 0) (M := 1000000000) (n := nIt h) (fun k hk => by
    have := hb.2.1 k hk
    split <;> omega)
  have h2 := hb.1
  unfold sS
  omega
/-- P has no bits below i -/
noncomputable def noLow (P i : Nat) : Prop := ∀ k, k < i → P.testBit k = false
theorem Tr_w {h : Nat → Nat → Int} (hb : itB h) {P i s : Nat} (hi : i ≤ nIt h) (hP : noLow P i) (hs : Tr P i s) : wS h s ≤ wS h P + sm (h 131) i := by
  rw [← sm_cut (f := h 131) hi]
  unfold wS
  rw [← sm_add]
  apply sm_le
  intro k hk
  have h1 := hb.2.2 k hk
  by_cases e : k < i
  · rw [if_pos e]
    split <;> split <;> omega
  · rw [hs k (by first | decide | omega), if_neg e]
    omega
theorem Tr_s {h : Nat → Nat → Int} (hb : itB h) {P i s : Nat} (hP : noLow P i) (hs : Tr P i s) : sS h P ≤ sS h s := by
  unfold sS
  apply sm_le
  intro k hk
  have h1 := hb.2.1 k hk
  by_cases e : k < i
  · rw [hP k e]
    split <;> simp at * <;> omega
  · rw [hs k (by first | decide | omega)]
    exact Int.le_refl _
theorem bit_set {P i : Nat} (h : P.testBit i = false) (k : Nat) : (P ||| 2 ^ i).testBit k = (decide (i = k) || P.testBit k) := by
  rw [Nat.testBit_or, Nat.testBit_two_pow, Bool.or_comm]
theorem with_w {h : Nat → Nat → Int} {P i : Nat} (hi : i < nIt h) (hp : P.testBit i = false) : wS h (P ||| 2 ^ i) = wS h P + h 131 i := by
  unfold wS
  rw [sm_one (f := fun k => if P.testBit k then h 131 k else 0) (c := i) hi (fun k hk hne => by rw [bit_set hp, decide_eq_false (fun z => hne z.symm), Bool.false_or])]
  rw [bit_set hp, hp]
  simp
theorem with_s {h : Nat → Nat → Int} {P i : Nat} (hi : i < nIt h) (hp : P.testBit i = false) : sS h (P ||| 2 ^ i) = sS h P + h 130 i := by
  unfold sS
  rw [sm_one (f := fun k => if P.testBit k then h 130 k else 0) (c := i) hi (fun k hk hne => by rw [bit_set hp, decide_eq_false (fun z => hne z.symm), Bool.false_or])]
  rw [bit_set hp, hp]
  simp
theorem Tr_split {P i : Nat} (hp : noLow P (i + 1)) (s : Nat) : Tr P (i + 1) s ↔ Tr (P ||| 2 ^ i) i s ∨ Tr P i s := by
  have hpi := hp i (by first | decide | omega)
  constructor
  · intro h
    cases hb : s.testBit i with
    | true =>
      refine Or.inl (fun k hk => ?_)
      rw [bit_set hpi]
      by_cases e : i = k
      · subst e
        rw [hb]
        simp
      · rw [decide_eq_false e, Bool.false_or]
        exact h k (by first | decide | omega)
    | false =>
      refine Or.inr (fun k hk => ?_)
      by_cases e : k = i
      · subst e
        rw [hb, hpi]
      · exact h k (by first | decide | omega)
  · rintro (h | h)
    · intro k hk
      rw [h k (by first | decide | omega), bit_set hpi, decide_eq_false (by first | decide | omega), Bool.false_or]
    · exact fun k hk => h k (by first | decide | omega)
theorem Tr_lt {P i : Nat} (hp : P.testBit i = false) {s m : Nat} (hs : Tr P i s) (hm : Tr (P ||| 2 ^ i) i m) : s < m := by
  have a0 : (s / 2 ^ i).testBit 0 = false := by rw [Nat.testBit_div_two_pow, Nat.zero_add, hs i (Nat.le_refl _), hp]
  have b0 : (m / 2 ^ i).testBit 0 = true := by
    rw [Nat.testBit_div_two_pow, Nat.zero_add, hm i (Nat.le_refl _), bit_set hp]
    simp
  have e : s / 2 ^ i / 2 = m / 2 ^ i / 2 := by
    apply Nat.eq_of_testBit_eq
    intro j
    rw [Nat.testBit_div_two, Nat.testBit_div_two, Nat.testBit_div_two_pow, Nat.testBit_div_two_pow, hs _ (by first | decide | omega), hm _ (by first | decide | omega), bit_set hp, decide_eq_false (by first | decide | omega), Bool.false_or]
  have a1 := Nat.mod_two_eq_zero_iff_testBit_zero.mpr a0
  have b1 := Nat.mod_two_eq_one_iff_testBit_zero.mpr b0
  rcases Nat.lt_or_ge s m with q | q
  · exact q
  · have := Nat.div_le_div_right (c := 2 ^ i) q
    omega
theorem Tr_0 {P s : Nat} : Tr P 0 s ↔ s = P := by
  constructor
  · intro h
    exact Nat.eq_of_testBit_eq (fun k => h k (Nat.zero_le _))
  · rintro rfl k _
    rfl
end
section
-- 26.cutx
/-! the class's search -/
noncomputable def D50 (S S' : AH) : Prop := S'.1 = S.1 ∧ ∀ a k, ¬ (a = 50 ∧ 5 ≤ k) → S'.2 a k = S.2 a k
theorem D50.rf {S : AH} : D50 S S := ⟨rfl, fun _ _ _ => rfl⟩
theorem D50.tr {S T U : AH} (h : D50 S T) (k : D50 T U) : D50 S U := ⟨k.1.trans h.1, fun a b q => (k.2 a b q).trans (h.2 a b q)⟩
theorem D50.cell {S S' : AH} (h : D50 S S') {a : Nat} (ha : a ≠ 50) : S'.2 a = S.2 a := funext fun k => h.2 a k (fun q => ha q.1)
theorem D50.wr {S : AH} {k : Nat} {v : Int} (hk : 5 ≤ k) : D50 S (wr S 50 k v) := ⟨rfl, fun a j q => by rw [wr_2, if_neg (fun z => q ⟨z.1, by omega⟩)]⟩
theorem GU.itB {h : Nat → Nat → Int} (H : GU h) : itB h := by
  obtain ⟨⟨u1, u2⟩, u3, u4, -⟩ := H
  refine ⟨by unfold nIt; omega, fun k hk => (u4 k (by unfold nIt at hk; omega)).2.2.1, fun k hk => (u4 k (by unfold nIt at hk; omega)).2.2.2.1⟩
/-- the best that is kept -/
noncomputable def Bst (h0 : Nat → Nat → Int) (S : AH) (b : Int) : Prop := S.2 50 5 = b ∧ ∀ m : Nat, b = m → S.2 50 6 = sS h0 m ∧ S.2 50 7 = wS h0 m
section
variable {L : Nat} {xs : Nat → Int} {S0 : AH}
theorem fl_bit {S : AH} (hU : GU S0.2) (hD : D50 S0 S) {j : Nat} (hj : j < nIt S0.2) : iand (ishr (S.2 50 3) j) 1 = 0 ↔ S0.2 132 j ≠ 1 := by
  obtain ⟨⟨u1, u2⟩, u3, u4, u5, ⟨u6, u7⟩, u8⟩ := hU
  have hj2 : (j : Int) < S0.2 72 79 := by unfold nIt at hj; omega
  have hb : S0.2 50 3 < 16384 := by
    have h1 : (2 : Nat) ^ (S0.2 72 79).toNat ≤ 2 ^ 14 := Nat.pow_le_pow_right (by decide) (by first | decide | omega)
    have h2 : (2 : Int) ^ (S0.2 72 79).toNat = ((2 ^ (S0.2 72 79).toNat : Nat) : Int) := by simp
    omega
  have e : S.2 50 3 = S0.2 50 3 := hD.2 50 3 (by first | decide | omega)
  have hi := ibit (S0.2 50 3) (j : Int) u6 (by first | decide | omega) (by first | decide | omega) (by first | decide | omega)
  rw [e, hi, Int.toNat_natCast, u8 j hj2]
  by_cases q : S0.2 132 j = 1
  · simp [q]
  · simp [q]
theorem x_choose (hU : GU S0.2) (tot : Int) (d : Nat) : ∀ (i P : Nat) (A : Nat → Prop) (b : Int) (S : AH), i ≤ nIt S0.2 → P < 16384 → noLow P i → (∀ k, i ≤ k → k < nIt S0.2 → S0.2 132 k = 1 → P.testBit k = true) → (∀ m, A m → ∀ s, Tr P i s → s < m) → D50 S0 S → Bst S0.2 S b → IsB S0.2 tot A b →
    ∃ S' b', ev (WK L xs) (d + i + 2) 96 [vr 50, vi ((i : Int) - 1), vl tot, vl (sS S0.2 P), vl (wS S0.2 P), vi (P : Int)] S = some (0, S') ∧ D50 S0 S' ∧ Bst S0.2 S' b' ∧ IsB S0.2 tot (fun s => A s ∨ Tr P i s) b' := by
  have hB := hU.itB
  have hn := hB.1
  intro i
  induction i with
  | zero =>
    intro P A b S hi hP hlow hfl hord hD hb hI
    have hs := sS_bd hB P
    have hw := wS_bd hB P
    have key : (∃ m : Nat, b = m ∧ (wS S0.2 P < wS S0.2 m ∨ (wS S0.2 P = wS S0.2 m ∧ sS S0.2 m < sS S0.2 P))) ∨ ¬ (∃ m : Nat, b = m ∧ (wS S0.2 P < wS S0.2 m ∨ (wS S0.2 P = wS S0.2 m ∧ sS S0.2 m < sS S0.2 P))) := Classical.em _
    have e53 : S.2 53 0 = 0 := by
      rw [hD.cell (by decide), hU.2.2.2.1 0 (by have := hU.1; omega)]
      rfl
    by_cases h1 : tot < sS S0.2 P
    · refine ⟨S, b, ?_, hD, hb, hI.grow (fun s hs' => Or.inl (fun hc => ?_))⟩
      · rw [q_96, if_pos (lc_gt.mpr h1)]
      · have := Tr_s hB hlow hs'
        have := hc.2
        omega
    · have hleaf : ∀ D : Nat, LQ (WK L xs) (ev (WK L xs) D) 96 45 [some (vr 50), some (vi (((0 : Nat) : Int) - 1)), some (vl tot), none, some (vl (sS S0.2 P)), none, some (vl (wS S0.2 P)), none, some (vi (P : Int))] [] S = some (0, wr (wr (wr S 50 5 P) 50 6 (sS S0.2 P)) 50 7 (wS S0.2 P)) := by
        intro D
        rw [q_96_45, if_pos (by first | decide | omega)]
      have htake : (b = -1 ∨ ∃ m : Nat, b = m ∧ btr S0.2 P m) → ∃ S' b', some ((0 : Int), wr (wr (wr S 50 5 P) 50 6 (sS S0.2 P)) 50 7 (wS S0.2 P)) = some (0, S') ∧ D50 S0 S' ∧ Bst S0.2 S' b' ∧ IsB S0.2 tot (fun s => A s ∨ Tr P 0 s) b' := by
        intro hbt
        refine ⟨_, P, rfl, ((hD.tr (D50.wr (by decide))).tr (D50.wr (by decide))).tr (D50.wr (by decide)), ⟨?_, fun m hm => ?_⟩, (hI.take ⟨fun k hk hf => hfl k (by first | decide | omega) hk hf, by omega⟩ hbt).ext (fun s => by rw [Tr_0])⟩
        · simp [wr_f]
        · have : m = P := by omega
          subst this
          simp [wr_f]
      rw [q_96, if_neg (fun z => h1 (lc_gt.mp z)), if_pos (by first | decide | omega), hb.1]
      by_cases hb1 : b = -1
      · rw [if_pos hb1, hleaf]
        exact htake (Or.inl hb1)
      · rw [if_neg hb1, w32e (by first | decide | omega) (by first | decide | omega), if_pos (by first | decide | omega)]
        have hz : (((0 : Nat) : Int) - 1 + 1).toNat = 0 := by omega
        rw [hz, e53, q_97, w64e (by first | decide | omega) (by first | decide | omega)]
        have hI2 := hI
        rcases hI with ⟨e1, -⟩ | ⟨m, e1, a1, c1, q1⟩
        · exact absurd e1 hb1
        · obtain ⟨g1, g2⟩ := hb.2 m e1
          simp only [lc_lt, lc_gt, lc_eq, g1, g2, Int.add_zero]
          have hPm : P < m := hord m a1 P (Tr_0.mpr rfl)
          by_cases k1 : wS S0.2 P < wS S0.2 m
          · rw [if_pos k1]
            refine ⟨S, b, rfl, hD, hb, hI2.grow (fun s hs' => Or.inr ⟨m, e1, ?_⟩)⟩
            have := Tr_0.mp hs'
            subst this
            unfold btr
            omega
          · rw [if_neg k1]
            by_cases k2 : wS S0.2 P = wS S0.2 m
            · rw [if_pos k2]
              by_cases k3 : sS S0.2 m < sS S0.2 P
              · rw [if_pos k3]
                refine ⟨S, b, rfl, hD, hb, hI2.grow (fun s hs' => Or.inr ⟨m, e1, ?_⟩)⟩
                have := Tr_0.mp hs'
                subst this
                unfold btr
                omega
              · rw [if_neg k3]
                simp only [bR, if_true]
                rw [hleaf]
                exact htake (Or.inr ⟨m, e1, by unfold btr; omega⟩)
            · rw [if_neg k2]
              simp only [bR, if_true]
              rw [hleaf]
              exact htake (Or.inr ⟨m, e1, by unfold btr; omega⟩)
  | succ j ih =>
    intro P A b S hi hP hlow hfl hord hD hb hI
    have hs := sS_bd hB P
    have hw := wS_bd hB P
    have hpj : P.testBit j = false := hlow j (by first | decide | omega)
    have hP2 : P ||| 2 ^ j < 16384 := Nat.or_lt_two_pow (n := 14) hP (Nat.pow_lt_pow_right (by decide) (by first | decide | omega))
    have hwb : 0 ≤ sm (S0.2 131) (j + 1) ∧ sm (S0.2 131) (j + 1) ≤ ((j + 1 : Nat) : Int) * 1000000 := sm_bd (fun k hk => hB.2.2 k (by first | decide | omega))
    have e53 : S.2 53 (j + 1) = sm (S0.2 131) (j + 1) := by
      rw [hD.cell (by decide), hU.2.2.2.1 (j + 1) (by have := hU.1; unfold nIt at hi; omega)]
    have hj4 := hU.2.2.1 j (by have := hU.1; unfold nIt at hi; omega)
    have e51 : S.2 51 j = S0.2 130 j := by rw [hD.cell (by decide), hj4.1]
    have e52 : S.2 52 j = S0.2 131 j := by rw [hD.cell (by decide), hj4.2.1]
    have hs2 := sS_bd hB (P ||| 2 ^ j)
    have hw2 := wS_bd hB (P ||| 2 ^ j)
    rw [with_s (by first | decide | omega) hpj] at hs2
    rw [with_w (by first | decide | omega) hpj] at hw2
    -- both branches
    have hgo : ∃ S' b', LQ (WK L xs) (ev (WK L xs) (d + j + 2)) 96 45 [some (vr 50), some (vi (((j + 1 : Nat) : Int) - 1)), some (vl tot), none, some (vl (sS S0.2 P)), none, some (vl (wS S0.2 P)), none, some (vi (P : Int))] [] S = some (0, S') ∧ D50 S0 S' ∧ Bst S0.2 S' b' ∧ IsB S0.2 tot (fun s => A s ∨ Tr P (j + 1) s) b' := by
      obtain ⟨S2, b2, r1, r2, r3, r4⟩ := ih (P ||| 2 ^ j) A b S (by first | decide | omega) hP2 (fun k hk => by rw [bit_set hpj, decide_eq_false (by first | decide | omega), Bool.false_or]; exact hlow k (by first | decide | omega)) (fun k hk hk2 hf => by
        rw [bit_set hpj]
        by_cases e : j = k
        · simp [e]
        · rw [hfl k (by first | decide | omega) hk2 hf]
          simp) (fun m hm s hs' => hord m hm s ((Tr_split hlow s).mpr (Or.inl hs'))) hD hb hI
      have ej : ((j + 1 : Nat) : Int) - 1 = j := by omega
      have eor : ior (P : Int) (ishl 1 (j : Int)) = ((P ||| 2 ^ j : Nat) : Int) := by rw [ishl_n j (by first | decide | omega), ior_n P (2 ^ j) (by first | decide | omega) (by have := Nat.right_le_or (n := P) (m := 2 ^ j); omega)]
      rw [q_96_45, ej, if_neg (by first | decide | omega), if_pos (by first | decide | omega), if_pos (by first | decide | omega), Int.toNat_natCast, e51, e52, eor, w64e (x := sS S0.2 P + S0.2 130 j) (by first | decide | omega) (by first | decide | omega), w64e (x := wS S0.2 P + S0.2 131 j) (by first | decide | omega) (by first | decide | omega), ← with_s (by first | decide | omega) hpj, ← with_w (by first | decide | omega) hpj, w32e (by first | decide | omega) (by first | decide | omega), r1, bR]
      by_cases hf : S0.2 132 j = 1
      · rw [if_neg (fun z => (fl_bit hU r2 (by first | decide | omega)).mp z hf)]
        refine ⟨S2, b2, rfl, r2, r3, (r4.grow (B := Tr P j) (fun s hs' => Or.inl (fun hc => ?_))).ext (fun s => ?_)⟩
        · have := hc.1 j (by first | decide | omega) hf
          rw [hs' j (Nat.le_refl _), hpj] at this
          cases this
        · rw [Tr_split hlow s]
          exact or_assoc
      · rw [if_pos ((fl_bit hU r2 (by first | decide | omega)).mpr hf)]
        obtain ⟨S3, b3, t1, t2, t3, t4⟩ := ih P (fun s => A s ∨ Tr (P ||| 2 ^ j) j s) b2 S2 (by first | decide | omega) hP (fun k hk => hlow k (by first | decide | omega)) (fun k hk hk2 hf2 => by
          by_cases e : k = j
          · subst e
            exact absurd hf2 hf
          · exact hfl k (by first | decide | omega) hk2 hf2) (fun m hm s hs' => by
          rcases hm with hm | hm
          · exact hord m hm s ((Tr_split hlow s).mpr (Or.inr hs'))
          · exact Tr_lt hpj hs' hm) r2 r3 r4
        rw [t1, bR]
        refine ⟨S3, b3, rfl, t2, t3, t4.ext (fun s => ?_)⟩
        rw [Tr_split hlow s]
        exact or_assoc
    have ed : d + (j + 1) + 2 = (d + j + 2) + 1 := by omega
    rw [ed]
    by_cases h1 : tot < sS S0.2 P
    · refine ⟨S, b, ?_, hD, hb, hI.grow (fun s hs' => Or.inl (fun hc => ?_))⟩
      · rw [q_96, if_pos (lc_gt.mpr h1)]
      · have := Tr_s hB hlow hs'
        have := hc.2
        omega
    · rw [q_96, if_neg (fun z => h1 (lc_gt.mp z)), if_pos (by first | decide | omega), hb.1]
      by_cases hb1 : b = -1
      · rw [if_pos hb1]
        exact hgo
      · rw [if_neg hb1, w32e (by first | decide | omega) (by first | decide | omega), if_pos (by first | decide | omega)]
        have hz : (((j + 1 : Nat) : Int) - 1 + 1).toNat = j + 1 := by omega
        rw [hz, e53, q_97, w64e (by first | decide | omega) (by first | decide | omega)]
        have hI2 := hI
        rcases hI with ⟨e1, -⟩ | ⟨m, e1, a1, c1, q1⟩
        · exact absurd e1 hb1
        · obtain ⟨g1, g2⟩ := hb.2 m e1
          simp only [lc_lt, lc_gt, lc_eq, g1, g2]
          have hpr : (wS S0.2 P + sm (S0.2 131) (j + 1) < wS S0.2 m ∨ (wS S0.2 P + sm (S0.2 131) (j + 1) = wS S0.2 m ∧ sS S0.2 m < sS S0.2 P)) → IsB S0.2 tot (fun s => A s ∨ Tr P (j + 1) s) b := by
            intro hk
            refine hI2.grow (fun s hs' => Or.inr ⟨m, e1, ?_⟩)
            have v1 := Tr_w hB (by first | decide | omega) hlow hs'
            have v2 := Tr_s hB hlow hs'
            unfold btr
            omega
          by_cases k1 : wS S0.2 P + sm (S0.2 131) (j + 1) < wS S0.2 m
          · rw [if_pos k1]
            exact ⟨S, b, rfl, hD, hb, hpr (Or.inl k1)⟩
          · rw [if_neg k1]
            by_cases k2 : wS S0.2 P + sm (S0.2 131) (j + 1) = wS S0.2 m
            · rw [if_pos k2]
              by_cases k3 : sS S0.2 m < sS S0.2 P
              · rw [if_pos k3]
                exact ⟨S, b, rfl, hD, hb, hpr (Or.inr ⟨k2, k3⟩)⟩
              · rw [if_neg k3]
                simp only [bR, if_true]
                exact hgo
            · rw [if_neg k2]
              simp only [bR, if_true]
              exact hgo
end
end
section
-- 27.cutm
/-! the search for more; the reference's loops -/
section
variable {L : Nat} {xs : Nat → Int} {S0 : AH}
theorem x_search (hU : GU S0.2) (bw : Int) (d : Nat) : ∀ (i P : Nat) (A : Nat → Prop) (v : Int) (S : AH), i ≤ nIt S0.2 → noLow P i → (∀ k, i ≤ k → k < nIt S0.2 → S0.2 132 k = 1 → P.testBit k = true) → D50 S0 S → S.2 50 7 = bw → S.2 50 8 = v → IsL S0.2 bw A v →
    ∃ S' v', ev (WK L xs) (d + i + 1) 99 [vr 50, vi ((i : Int) - 1), vl (sS S0.2 P), vl (wS S0.2 P)] S = some (0, S') ∧ D50 S0 S' ∧ S'.2 50 7 = bw ∧ S'.2 50 8 = v' ∧ IsL S0.2 bw (fun s => A s ∨ Tr P i s) v' := by
  have hB := hU.itB
  have hn := hB.1
  intro i
  induction i with
  | zero =>
    intro P A v S hi hlow hfl hD hbw hv hI
    have hs := sS_bd hB P
    have hw := wS_bd hB P
    have e53 : S.2 53 0 = 0 := by
      rw [hD.cell (by decide), hU.2.2.2.1 0 (by have := hU.1; omega)]
      rfl
    have hz : (((0 : Nat) : Int) - 1 + 1).toNat = 0 := by omega
    rw [q_99, if_pos (by first | decide | omega), w32e (by first | decide | omega) (by first | decide | omega), if_pos (by first | decide | omega), hz, e53, hbw, hv, Int.add_zero, w64e (by first | decide | omega) (by first | decide | omega)]
    simp only [lc_gt, lc_lt, lc_eq]
    by_cases k1 : bw < wS S0.2 P
    · rw [if_pos k1]
      have hleaf : ∀ D : Nat, LQ (WK L xs) (ev (WK L xs) D) 99 49 [some (vr 50), some (vi (((0 : Nat) : Int) - 1)), some (vl (sS S0.2 P)), none, some (vl (wS S0.2 P)), none] [] S = some (0, wr S 50 8 (sS S0.2 P)) := by
        intro D
        rw [q_99_49, if_pos (by first | decide | omega)]
      have htake : (v = -1 ∨ sS S0.2 P < v) → ∃ S' v', some ((0 : Int), wr S 50 8 (sS S0.2 P)) = some (0, S') ∧ D50 S0 S' ∧ S'.2 50 7 = bw ∧ S'.2 50 8 = v' ∧ IsL S0.2 bw (fun s => A s ∨ Tr P 0 s) v' := by
        intro hvt
        refine ⟨_, sS S0.2 P, rfl, hD.tr (D50.wr (by decide)), ?_, ?_, (hI.take (fun s => (sS_bd hB s).1) ⟨fun k hk hf => hfl k (by first | decide | omega) hk hf, k1⟩ hvt).ext (fun s => by rw [Tr_0])⟩
        · rw [wr_f, if_neg (by decide)]
          exact hbw
        · rw [wr_f, if_pos rfl]
      by_cases k2 : v = -1
      · rw [if_pos k2, hleaf]
        exact htake (Or.inl k2)
      · rw [if_neg k2]
        by_cases k3 : sS S0.2 P < v
        · rw [if_pos k3, hleaf]
          exact htake (Or.inr k3)
        · rw [if_neg k3]
          refine ⟨S, v, rfl, hD, hbw, hv, hI.grow (fun s hs' => Or.inr ⟨k2, ?_⟩)⟩
          have := Tr_0.mp hs'
          subst this
          omega
    · rw [if_neg k1]
      refine ⟨S, v, rfl, hD, hbw, hv, hI.grow (fun s hs' => Or.inl (fun z => ?_))⟩
      have := Tr_0.mp hs'
      subst this
      exact k1 z.2
  | succ j ih =>
    intro P A v S hi hlow hfl hD hbw hv hI
    have hs := sS_bd hB P
    have hw := wS_bd hB P
    have hpj : P.testBit j = false := hlow j (by first | decide | omega)
    have hwb : 0 ≤ sm (S0.2 131) (j + 1) ∧ sm (S0.2 131) (j + 1) ≤ ((j + 1 : Nat) : Int) * 1000000 := sm_bd (fun k hk => hB.2.2 k (by first | decide | omega))
    have e53 : S.2 53 (j + 1) = sm (S0.2 131) (j + 1) := by
      rw [hD.cell (by decide), hU.2.2.2.1 (j + 1) (by have := hU.1; unfold nIt at hi; omega)]
    have hj4 := hU.2.2.1 j (by have := hU.1; unfold nIt at hi; omega)
    have hs2 := sS_bd hB (P ||| 2 ^ j)
    have hw2 := wS_bd hB (P ||| 2 ^ j)
    rw [with_s (by first | decide | omega) hpj] at hs2
    rw [with_w (by first | decide | omega) hpj] at hw2
    have ej : ((j + 1 : Nat) : Int) - 1 = j := by omega
    have hwith : ∀ (A2 : Nat → Prop) (v2 : Int) (S2 : AH), D50 S0 S2 → S2.2 50 7 = bw → S2.2 50 8 = v2 → IsL S0.2 bw A2 v2 → ∃ S' v', LQ (WK L xs) (ev (WK L xs) (d + j + 1)) 99 80 [some (vr 50), some (vi (j : Int)), some (vl (sS S0.2 P)), none, some (vl (wS S0.2 P)), none] [] S2 = some (0, S') ∧ D50 S0 S' ∧ S'.2 50 7 = bw ∧ S'.2 50 8 = v' ∧ IsL S0.2 bw (fun s => A2 s ∨ Tr (P ||| 2 ^ j) j s) v' := by
      intro A2 v2 S2 g1 g2 g3 g4
      have e51 : S2.2 51 j = S0.2 130 j := by rw [g1.cell (by decide), hj4.1]
      have e52 : S2.2 52 j = S0.2 131 j := by rw [g1.cell (by decide), hj4.2.1]
      obtain ⟨S3, v3, r1, r2, r3, r4, r5⟩ := ih (P ||| 2 ^ j) A2 v2 S2 (by first | decide | omega) (fun k hk => by rw [bit_set hpj, decide_eq_false (by first | decide | omega), Bool.false_or]; exact hlow k (by first | decide | omega)) (fun k hk hk2 hf => by
        rw [bit_set hpj]
        by_cases e : j = k
        · simp [e]
        · rw [hfl k (by first | decide | omega) hk2 hf]
          simp) g1 g2 g3 g4
      rw [q_99_80, if_pos (by first | decide | omega), if_pos (by first | decide | omega), Int.toNat_natCast, e51, e52, w64e (x := sS S0.2 P + S0.2 130 j) (by first | decide | omega) (by first | decide | omega), w64e (x := wS S0.2 P + S0.2 131 j) (by first | decide | omega) (by first | decide | omega), ← with_s (by first | decide | omega) hpj, ← with_w (by first | decide | omega) hpj, w32e (by first | decide | omega) (by first | decide | omega), r1, bR]
      exact ⟨S3, v3, rfl, r2, r3, r4, r5⟩
    have hgo : ∃ S' v', LQ (WK L xs) (ev (WK L xs) (d + j + 1)) 99 49 [some (vr 50), some (vi (((j + 1 : Nat) : Int) - 1)), some (vl (sS S0.2 P)), none, some (vl (wS S0.2 P)), none] [] S = some (0, S') ∧ D50 S0 S' ∧ S'.2 50 7 = bw ∧ S'.2 50 8 = v' ∧ IsL S0.2 bw (fun s => A s ∨ Tr P (j + 1) s) v' := by
      rw [q_99_49, ej, if_neg (by first | decide | omega)]
      by_cases hf : S0.2 132 j = 1
      · rw [if_neg (fun z => (fl_bit hU hD (by first | decide | omega)).mp z hf)]
        obtain ⟨S3, v3, r1, r2, r3, r4, r5⟩ := hwith A v S hD hbw hv hI
        refine ⟨S3, v3, r1, r2, r3, r4, (r5.grow (B := Tr P j) (fun s hs' => Or.inl (fun z => ?_))).ext (fun s => ?_)⟩
        · have := z.1 j (by first | decide | omega) hf
          rw [hs' j (Nat.le_refl _), hpj] at this
          cases this
        · rw [Tr_split hlow s]
          exact or_assoc
      · rw [if_pos ((fl_bit hU hD (by first | decide | omega)).mpr hf), w32e (by first | decide | omega) (by first | decide | omega)]
        obtain ⟨S2, v2, t1, t2, t3, t4, t5⟩ := ih P A v S (by first | decide | omega) (fun k hk => hlow k (by first | decide | omega)) (fun k hk hk2 hf2 => by
          by_cases e : k = j
          · subst e
            exact absurd hf2 hf
          · exact hfl k (by first | decide | omega) hk2 hf2) hD hbw hv hI
        rw [t1, bR]
        obtain ⟨S3, v3, r1, r2, r3, r4, r5⟩ := hwith _ v2 S2 t2 t3 t4 t5
        refine ⟨S3, v3, r1, r2, r3, r4, r5.ext (fun s => ?_)⟩
        rw [Tr_split hlow s]
        constructor
        · rintro ((q | q) | q)
          · exact Or.inl q
          · exact Or.inr (Or.inr q)
          · exact Or.inr (Or.inl q)
        · rintro (q | q | q)
          · exact Or.inl (Or.inl q)
          · exact Or.inr q
          · exact Or.inl (Or.inr q)
    have ed : d + (j + 1) + 1 = (d + j + 1) + 1 := by omega
    have hz : (((j + 1 : Nat) : Int) - 1 + 1).toNat = j + 1 := by omega
    rw [ed, q_99, if_pos (by first | decide | omega), w32e (by first | decide | omega) (by first | decide | omega), if_pos (by first | decide | omega), hz, e53, hbw, hv, w64e (by first | decide | omega) (by first | decide | omega)]
    simp only [lc_gt, lc_lt, lc_eq]
    by_cases k1 : bw < wS S0.2 P + sm (S0.2 131) (j + 1)
    · rw [if_pos k1]
      by_cases k2 : v = -1
      · rw [if_pos k2]
        exact hgo
      · rw [if_neg k2]
        by_cases k3 : sS S0.2 P < v
        · rw [if_pos k3]
          exact hgo
        · rw [if_neg k3]
          refine ⟨S, v, rfl, hD, hbw, hv, hI.grow (fun s hs' => Or.inr ⟨k2, ?_⟩)⟩
          have := Tr_s hB hlow hs'
          omega
    · rw [if_neg k1]
      refine ⟨S, v, rfl, hD, hbw, hv, hI.grow (fun s hs' => Or.inl (fun z => ?_))⟩
      have := Tr_w hB (by first | decide | omega) hlow hs'
      have := z.2
      omega
end
/-! the reference's loops over the items -/
section
variable {L : Nat} {xs : Nat → Int} {d : Nat} {S : AH}
theorem GU.n {h : Nat → Nat → Int} (H : GU h) : h 72 79 = (nIt h : Int) := by
  unfold nIt
  have := H.1
  omega
theorem set_bit {s k : Nat} (hs : s < 16384) (hk : k < 14) : iand (ishr (s : Int) (k : Int)) 1 = if s.testBit k then 1 else 0 := by
  have := ibit (s : Int) (k : Int) (by first | decide | omega) (by first | decide | omega) (by first | decide | omega) (by first | decide | omega)
  rw [this, Int.toNat_natCast, Int.toNat_natCast]
theorem m_hasFloors (hU : GU S.2) (s : Nat) (hs : s < 16384) : ∃ r : Int, ev (WK L xs) (d + 1) 274 [vr 72, vi s] S = some (r, S) ∧ (r = 0 ∨ r = 1) ∧ (r = 1 ↔ flO S.2 s) := by
  have hB := hU.itB
  have en := hU.n
  have key : ∀ (m k : Nat), k + m = nIt S.2 → (∀ j, j < k → S.2 132 j = 1 → s.testBit j = true) → ∃ r : Int, LQ (WK L xs) (ev (WK L xs) d) 274 2 [some (vr 72), some (vi s), some (vi (k : Int))] [] S = some (r, S) ∧ (r = 0 ∨ r = 1) ∧ (r = 1 ↔ flO S.2 s) := by
    intro m
    induction m with
    | zero =>
      intro k hk hp
      rw [q_274_2, en, if_neg (by first | decide | omega)]
      exact ⟨1, rfl, Or.inr rfl, fun _ j hj hf => hp j (by first | decide | omega) hf, fun _ => rfl⟩
    | succ m ih =>
      intro k hk hp
      have hf := (hU.2.2.1 k (by first | decide | omega)).2.2.2.2
      have hb1 := hB.1
      rw [q_274_2, en, if_pos (by first | decide | omega), if_pos (by first | decide | omega), Int.toNat_natCast, w32e (by first | decide | omega) (by first | decide | omega), set_bit hs (by first | decide | omega)]
      have e1 : (k : Int) + 1 = ((k + 1 : Nat) : Int) := by omega
      rw [e1]
      rcases hf with hf | hf
      · rw [if_pos hf]
        exact ih (k + 1) (by first | decide | omega) (fun j hj hq => by
          by_cases e : j = k
          · subst e; omega
          · exact hp j (by first | decide | omega) hq)
      · rw [if_neg (by first | decide | omega)]
        cases hb : s.testBit k with
        | true =>
          rw [if_neg (by simp)]
          exact ih (k + 1) (by first | decide | omega) (fun j hj hq => by
            by_cases e : j = k
            · subst e; exact hb
            · exact hp j (by first | decide | omega) hq)
        | false =>
          rw [if_pos (by simp)]
          refine ⟨0, rfl, Or.inl rfl, fun z => (by cases z), fun z => ?_⟩
          have := z k (by first | decide | omega) hf
          rw [hb] at this
          cases this
  rw [q_274]
  exact key (nIt S.2) 0 (by first | decide | omega) (fun j hj => by omega)
theorem m_sumOf (hU : GU S.2) (s : Nat) (hs : s < 16384) : ev (WK L xs) (d + 1) 275 [vr 72, vi s] S = some (sS S.2 s, S) := by
  have hB := hU.itB
  have en := hU.n
  have hb1 := hB.1
  have key : ∀ (m k : Nat), k + m = nIt S.2 → LQ (WK L xs) (ev (WK L xs) d) 275 5 [some (vr 72), some (vi s), some (vl (sm (fun j => if s.testBit j then S.2 130 j else 0) k)), none, some (vi (k : Int))] [] S = some (sS S.2 s, S) := by
    intro m
    induction m with
    | zero =>
      intro k hk
      rw [q_275_5, en, if_neg (by first | decide | omega)]
      have : k = nIt S.2 := by omega
      subst this
      rfl
    | succ m ih =>
      intro k hk
      have hv := sm_bd (f := fun j => if s.testBit j then S.2 130 j else 0) (M := 1000000000) (n := k + 1) (fun j hj => by
        have := hB.2.1 j (by first | decide | omega)
        split <;> omega)
      have hst : sm (fun j => if s.testBit j then S.2 130 j else 0) (k + 1) = sm (fun j => if s.testBit j then S.2 130 j else 0) k + (if s.testBit k then S.2 130 k else 0) := rfl
      have e1 : (k : Int) + 1 = ((k + 1 : Nat) : Int) := by omega
      rw [q_275_5, en, if_pos (by first | decide | omega), set_bit hs (by first | decide | omega), w32e (by first | decide | omega) (by first | decide | omega), e1, Int.toNat_natCast]
      cases hb : s.testBit k with
      | true =>
        rw [hb, if_pos rfl] at hst
        rw [if_pos (by simp), if_pos (by first | decide | omega), ← hst, w64e (by first | decide | omega) (by first | decide | omega)]
        exact ih (k + 1) (by first | decide | omega)
      | false =>
        rw [hb, if_neg (by decide)] at hst
        rw [if_neg (by simp), ← hst, w64e (by first | decide | omega) (by first | decide | omega)]
        exact ih (k + 1) (by first | decide | omega)
  rw [q_275]
  exact key (nIt S.2) 0 (by first | decide | omega)
theorem m_worthOf (hU : GU S.2) (s : Nat) (hs : s < 16384) : ev (WK L xs) (d + 1) 276 [vr 72, vi s] S = some (wS S.2 s, S) := by
  have hB := hU.itB
  have en := hU.n
  have hb1 := hB.1
  have key : ∀ (m k : Nat), k + m = nIt S.2 → LQ (WK L xs) (ev (WK L xs) d) 276 4 [some (vr 72), some (vi s), some (vi (sm (fun j => if s.testBit j then S.2 131 j else 0) k)), some (vi (k : Int))] [] S = some (wS S.2 s, S) := by
    intro m
    induction m with
    | zero =>
      intro k hk
      rw [q_276_4, en, if_neg (by first | decide | omega)]
      have : k = nIt S.2 := by omega
      subst this
      rfl
    | succ m ih =>
      intro k hk
      have hv := sm_bd (f := fun j => if s.testBit j then S.2 131 j else 0) (M := 1000000) (n := k + 1) (fun j hj => by
        have := hB.2.2 j (by first | decide | omega)
        split <;> omega)
      have hst : sm (fun j => if s.testBit j then S.2 131 j else 0) (k + 1) = sm (fun j => if s.testBit j then S.2 131 j else 0) k + (if s.testBit k then S.2 131 k else 0) := rfl
      have e1 : (k : Int) + 1 = ((k + 1 : Nat) : Int) := by omega
      rw [q_276_4, en, if_pos (by first | decide | omega), set_bit hs (by first | decide | omega), w32e (x := (k : Int) + 1) (by first | decide | omega) (by first | decide | omega), e1, Int.toNat_natCast]
      cases hb : s.testBit k with
      | true =>
        rw [hb, if_pos rfl] at hst
        rw [if_pos (by simp), if_pos (by first | decide | omega), ← hst, w32e (by first | decide | omega) (by first | decide | omega)]
        exact ih (k + 1) (by first | decide | omega)
      | false =>
        rw [hb, if_neg (by decide)] at hst
        rw [if_neg (by simp), ← hst, w32e (by first | decide | omega) (by first | decide | omega)]
        exact ih (k + 1) (by first | decide | omega)
  rw [q_276]
  exact key (nIt S.2) 0 (by first | decide | omega)
end
end
section
-- 28.opcut
/-! calls: cut, more -/
theorem Tr_all {n s : Nat} : Tr 0 n s ↔ s < 2 ^ n := by
  constructor
  · intro h
    exact Nat.lt_pow_two_of_testBit s (fun i hi => by rw [h i hi]; simp)
  · intro h k hk
    rw [Nat.testBit_lt_two_pow (Nat.lt_of_lt_of_le h (Nat.pow_le_pow_right (by decide) hk))]
    simp
theorem sS_0 {h : Nat → Nat → Int} : sS h 0 = 0 := by
  unfold sS
  rw [sm_congr (g := fun _ => 0) (fun k _ => by simp), sm_zero]
theorem wS_0 {h : Nat → Nat → Int} : wS h 0 = 0 := by
  unfold wS
  rw [sm_congr (g := fun _ => 0) (fun k _ => by simp), sm_zero]
section
variable {L : Nat} {xs : Nat → Int} {d : Nat} {S : AH}
theorem x_best (hU : GU S.2) (tot : Int) (hd : 20 ≤ d) : ∃ S' b, ev (WK L xs) d 95 [vr 50, vi tot] S = some (b, S') ∧ D50 S S' ∧ Bst S.2 S' b ∧ IsB S.2 tot (fun s => s < 2 ^ nIt S.2) b := by
  have hB := hU.itB
  have hn := hB.1
  have en := hU.n
  have e4 := hU.2.1
  obtain ⟨S', b', r1, r2, r3, r4⟩ := x_choose (L := L) (xs := xs) hU tot (d - nIt S.2 - 3) (nIt S.2) 0 (fun _ => False) (-1) (wr S 50 5 (-1)) (Nat.le_refl _) (by decide) (fun k _ => by simp) (fun k h1 h2 => by omega) (fun m hm => hm.elim) (D50.wr (by decide)) ⟨by simp [wr_f], fun m hm => by omega⟩ (Or.inl ⟨rfl, fun s hs => hs.elim⟩)
  refine ⟨S', b', ?_, r2, r3, r4.ext (fun s => by rw [Tr_all]; simp)⟩
  obtain ⟨e, he⟩ : ∃ e, d = e + 1 := ⟨d - 1, by omega⟩
  subst he
  have ed : e + 1 - nIt S.2 - 3 + nIt S.2 + 2 = e := by omega
  rw [sS_0, wS_0, ed] at r1
  rw [q_95, e4, en, w32e (by first | decide | omega) (by first | decide | omega)]
  have r1' : ev (WK L xs) e 96 [vr 50, vi ((nIt S.2 : Int) - 1), vl tot, vl 0, vl 0, vi 0] (wr S 50 5 (-1)) = some (0, S') := r1
  rw [r1', bR, r3.1]
theorem m_best (hU : GU S.2) (tot : Int) : ∃ b, ev (WK L xs) (d + 3) 273 [vr 72, vi tot] S = some ((if 0 ≤ tot ∧ tot ≤ 1000000000 then b else -1), S) ∧ IsB S.2 tot (fun s => s < 2 ^ nIt S.2) b := by
  have hB := hU.itB
  have hn := hB.1
  have en := hU.n
  have h2n : 2 ^ nIt S.2 ≤ 16384 := Nat.pow_le_pow_right (n := 2) (j := 14) (by decide) hn
  have key : ∀ (m k : Nat) (b : Int), k + m = 2 ^ nIt S.2 → IsB S.2 tot (fun s => s < k) b → ∃ b', LQ (WK L xs) (ev (WK L xs) (d + 2)) 273 13 [some (vr 72), some (vi tot), some (vi b), some (vi (k : Int))] [] S = some (b', S) ∧ IsB S.2 tot (fun s => s < 2 ^ nIt S.2) b' := by
    intro m
    induction m with
    | zero =>
      intro k b hk hI
      rw [q_273_13, en, ishl_n _ (by first | decide | omega), if_neg (by first | decide | omega)]
      have : k = 2 ^ nIt S.2 := by omega
      subst this
      exact ⟨b, rfl, hI⟩
    | succ m ih =>
      intro k b hk hI
      obtain ⟨r, f1, f2, f3⟩ := m_hasFloors (L := L) (xs := xs) (d := d + 1) hU k (by first | decide | omega)
      have e1 : (k : Int) + 1 = ((k + 1 : Nat) : Int) := by omega
      have hkeep : (¬ cnd S.2 tot k ∨ ∃ m : Nat, b = m ∧ ¬ btr S.2 k m) → IsB S.2 tot (fun s => s < k + 1) b := fun hz => (hI.grow (B := fun s => s = k) (fun s hs => by subst hs; exact hz)).ext (fun s => by omega)
      have htake : cnd S.2 tot k → (b = -1 ∨ ∃ m : Nat, b = m ∧ btr S.2 k m) → IsB S.2 tot (fun s => s < k + 1) (k : Int) := fun hz hq => (hI.take hz hq).ext (fun s => by omega)
      rw [q_273_13, en, ishl_n _ (by first | decide | omega), if_pos (by first | decide | omega), f1, bR, w32e (by first | decide | omega) (by first | decide | omega), e1]
      rcases f2 with hr | hr
      · rw [if_pos hr]
        exact ih (k + 1) b (by first | decide | omega) (hkeep (Or.inl (fun z => by have := f3.mpr z.1; omega)))
      · have hfl := f3.mp hr
        rw [if_neg (by first | decide | omega), m_sumOf hU k (by first | decide | omega), bR]
        simp only [lc_gt]
        by_cases h1 : tot < sS S.2 k
        · rw [if_pos h1]
          exact ih (k + 1) b (by first | decide | omega) (hkeep (Or.inl (fun z => by have := z.2; omega)))
        · rw [if_neg h1]
          have hc : cnd S.2 tot k := ⟨hfl, by omega⟩
          by_cases h2 : b = -1
          · rw [if_pos h2]
            exact ih (k + 1) k (by first | decide | omega) (htake hc (Or.inl h2))
          · rw [if_neg h2]
            rcases (show IsB S.2 tot (fun s => s < k) b from hI) with ⟨q, -⟩ | ⟨x, hx, a1, c1, q1⟩
            · exact absurd q h2
            · have ax : x < k := a1
              subst hx
              rw [m_worthOf hU k (by first | decide | omega), bR, m_worthOf hU x (by first | decide | omega), bR]
              by_cases h3 : wS S.2 x < wS S.2 k
              · rw [if_pos h3]
                exact ih (k + 1) k (by first | decide | omega) (htake hc (Or.inr ⟨x, rfl, Or.inl h3⟩))
              · rw [if_neg h3, m_worthOf hU k (by first | decide | omega), bR, m_worthOf hU x (by first | decide | omega), bR]
                by_cases h4 : wS S.2 k = wS S.2 x
                · rw [if_pos h4, m_sumOf hU k (by first | decide | omega), bR, m_sumOf hU x (by first | decide | omega), bR]
                  simp only [lc_lt]
                  by_cases h5 : sS S.2 k < sS S.2 x
                  · rw [if_pos h5]
                    exact ih (k + 1) k (by first | decide | omega) (htake hc (Or.inr ⟨x, rfl, Or.inr ⟨h4, Or.inl h5⟩⟩))
                  · rw [if_neg h5]
                    exact ih (k + 1) x (by first | decide | omega) (hkeep (Or.inr ⟨x, rfl, by unfold btr; omega⟩))
                · rw [if_neg h4]
                  exact ih (k + 1) x (by first | decide | omega) (hkeep (Or.inr ⟨x, rfl, by unfold btr; omega⟩))
  obtain ⟨b, k1, k2⟩ := key (2 ^ nIt S.2) 0 (-1) (by first | decide | omega) (Or.inl ⟨rfl, fun s hs => by omega⟩)
  refine ⟨b, ?_, k2⟩
  rw [q_273, m_isSum, bR]
  simp only [bi_0]
  by_cases hc : 0 ≤ tot ∧ tot ≤ 1000000000
  · rw [if_neg (fun z => z hc), if_pos hc]
    exact k1
  · rw [if_pos hc, if_neg hc]
theorem D50.inv {S' : AH} (H : Inv S) (h : D50 S S') : Inv S' := by
  refine H.scr ⟨by rw [h.1]; exact Nat.le_refl _, fun a h1 h2 => ⟨by rw [h.1], h.cell (by first | decide | omega)⟩⟩ (fun a k _ hs => h.2 a k (fun z => hs ?_))
  unfold scr
  omega
theorem D50.gu {S' : AH} (H : GU S.2) (h : D50 S S') : GU S'.2 := H.fr (h.2 _ _ (by decide)) (h.2 _ _ (by decide)) (h.2 _ _ (by decide)) (fun a ha => h.cell (by first | decide | omega))
theorem D50.sets {S' : AH} (h : D50 S S') : nIt S'.2 = nIt S.2 ∧ wS S'.2 = wS S.2 ∧ sS S'.2 = sS S.2 ∧ (∀ s, flO S'.2 s ↔ flO S.2 s) := by
  have e1 : nIt S'.2 = nIt S.2 := by unfold nIt; rw [h.cell (by decide)]
  refine ⟨e1, ?_, ?_, fun s => ?_⟩
  · funext s
    unfold wS
    rw [e1, h.cell (a := 131) (by decide)]
  · funext s
    unfold sS
    rw [e1, h.cell (a := 130) (by decide)]
  · unfold flO
    rw [e1, h.cell (a := 132) (by decide)]
theorem D50.isB {S' : AH} (h : D50 S S') {tot b : Int} {A : Nat → Prop} (hb : IsB S'.2 tot A b) : IsB S.2 tot A b := by
  obtain ⟨e1, e2, e3, e4⟩ := h.sets
  unfold IsB cnd btr at hb ⊢
  rw [e2, e3] at hb
  simpa only [e4] using hb
theorem o_cut (H : Inv S) (t : Int) : Ok L xs 34 273 [vi t] S := by
  by_cases hc : 0 ≤ t ∧ t ≤ 1000000000
  · obtain ⟨S1, b, x1, x2, x3, x4⟩ := x_best (L := L) (xs := xs) (d := 199) H.gu t (by decide)
    obtain ⟨b2, m1, m2⟩ := m_best (L := L) (xs := xs) (d := 197) (x2.gu H.gu) t
    have e : b2 = b := by
      have := x2.isB m2
      rw [x2.sets.1] at this
      exact this.one x4
    rw [if_pos hc, e] at m1
    refine ⟨b, S1, S1, ?_, m1, x2.inv H, Gw.of x2.1⟩
    rw [q_34, x_isSum, bR]
    simp only [bi_0]
    rw [if_neg (fun z => z hc), x1, bR]
  · obtain ⟨b2, m1, m2⟩ := m_best (L := L) (xs := xs) (d := 197) H.gu t
    rw [if_neg hc] at m1
    refine Ok.same H ?_ m1
    rw [q_34, x_isSum, bR]
    simp only [bi_0]
    rw [if_pos hc]
theorem D50.isL {S' : AH} (h : D50 S S') {bw b : Int} {A : Nat → Prop} (hb : IsL S'.2 bw A b) : IsL S.2 bw A b := by
  obtain ⟨e1, e2, e3, e4⟩ := h.sets
  unfold IsL at hb ⊢
  rw [e2, e3] at hb
  simpa only [e4] using hb
theorem x_more (hU : GU S.2) (tot : Int) (h1 : 0 ≤ tot ∧ tot ≤ 1000000000) (hd : 20 ≤ d) : ∃ S' r, ev (WK L xs) (d + 1) 98 [vr 50, vi tot] S = some (r, S') ∧ D50 S S' ∧ ∃ b, IsB S.2 tot (fun s => s < 2 ^ nIt S.2) b ∧ (b = -1 → r = -1) ∧ ∀ m : Nat, b = m → ∃ v, IsL S.2 (wS S.2 m) (fun s => s < 2 ^ nIt S.2) v ∧ r = if v = -1 then 0 else v - tot := by
  obtain ⟨S1, b, x1, x2, x3, x4⟩ := x_best (L := L) (xs := xs) (d := d) hU tot hd
  by_cases hb : b = -1
  · refine ⟨S1, -1, ?_, x2, b, x4, fun _ => rfl, fun m hm => by omega⟩
    rw [q_98, x1, bR, if_pos hb]
  · obtain ⟨m, hm⟩ : ∃ m : Nat, b = m := by
      rcases x4 with ⟨q, -⟩ | ⟨m, q, -⟩
      · exact absurd q hb
      · exact ⟨m, q⟩
    have hB := hU.itB
    have hn := hB.1
    obtain ⟨z1, z2, z3, z4⟩ := x2.sets
    have hU1 := x2.gu hU
    have en : S1.2 72 79 = (nIt S.2 : Int) := by rw [hU1.n, z1]
    have g1 := (x3.2 m hm).2
    obtain ⟨S2, v, r1, r2, r3, r4, r5⟩ := x_search (L := L) (xs := xs) hU (wS S.2 m) (d - nIt S.2 - 1) (nIt S.2) 0 (fun _ => False) (-1) (wr S1 50 8 (-1)) (Nat.le_refl _) (fun k _ => by simp) (fun k h1 h2 => by omega) (x2.tr (D50.wr (by decide))) (by rw [wr_f, if_neg (by decide)]; exact g1) (by rw [wr_f, if_pos rfl]) (Or.inl ⟨rfl, fun s hs => hs.elim⟩)
    have ed : d - nIt S.2 - 1 + nIt S.2 + 1 = d := by omega
    rw [sS_0, wS_0, ed] at r1
    have r5' : IsL S.2 (wS S.2 m) (fun s => s < 2 ^ nIt S.2) v := r5.ext (fun s => by rw [Tr_all]; simp)
    refine ⟨S2, if v = -1 then 0 else v - tot, ?_, r2, b, x4, fun q => absurd q hb, fun m2 hm2 => ⟨v, ?_, rfl⟩⟩
    · rw [q_98, x1, bR, if_neg hb, hU1.2.1, en, w32e (by first | decide | omega) (by first | decide | omega), r1, bR, r4]
      simp only [lc_eq]
      by_cases hv : v = -1
      · rw [if_pos hv, if_pos hv]
      · rw [if_neg hv, if_neg hv]
        have hvb : 0 ≤ v ∧ v ≤ 14000000000 := by
          rcases r5' with ⟨q, -⟩ | ⟨x, -, -, q, -⟩
          · exact absurd q hv
          · rw [q]
            exact sS_bd hB x
        rw [w64e (by first | decide | omega) (by first | decide | omega)]
    · have : m2 = m := by omega
      subst this
      exact r5'
theorem m_more (hU : GU S.2) (tot : Int) (h1 : 0 ≤ tot ∧ tot ≤ 1000000000) : ∃ r, ev (WK L xs) (d + 4) 277 [vr 72, vi tot] S = some (r, S) ∧ ∃ b, IsB S.2 tot (fun s => s < 2 ^ nIt S.2) b ∧ (b = -1 → r = -1) ∧ ∀ m : Nat, b = m → ∃ v, IsL S.2 (wS S.2 m) (fun s => s < 2 ^ nIt S.2) v ∧ r = if v = -1 then 0 else v - tot := by
  obtain ⟨b, m1, m2⟩ := m_best (L := L) (xs := xs) (d := d) hU tot
  rw [if_pos h1] at m1
  by_cases hb : b = -1
  · refine ⟨-1, ?_, b, m2, fun _ => rfl, fun m hm => by omega⟩
    rw [q_277, m1, bR, if_pos hb]
  · have hB := hU.itB
    have hn := hB.1
    have en := hU.n
    have h2n : 2 ^ nIt S.2 ≤ 16384 := Nat.pow_le_pow_right (n := 2) (j := 14) (by decide) hn
    have m2' := m2
    rcases m2 with ⟨q, -⟩ | ⟨x, hx, ax, cx, qx⟩
    · exact absurd q hb
    · subst hx
      have ax : x < 2 ^ nIt S.2 := ax
      -- a set of more worth costs more than the total
      have hgt : ∀ s, s < 2 ^ nIt S.2 → flO S.2 s ∧ wS S.2 x < wS S.2 s → tot < sS S.2 s := by
        intro s hs hq
        rcases Int.lt_or_le tot (sS S.2 s) with z | z
        · exact z
        · exact absurd (Or.inl hq.2) (qx s hs ⟨hq.1, z⟩)
      have key : ∀ (m k : Nat) (v : Int), k + m = 2 ^ nIt S.2 → IsL S.2 (wS S.2 x) (fun s => s < k) v → ∃ v', LQ (WK L xs) (ev (WK L xs) (d + 3)) 277 20 [some (vr 72), some (vi tot), some (vi (x : Int)), some (vl (if v = -1 then 0 else v - tot)), none, some (vi (k : Int)), none, none] [] S = some (if v' = -1 then 0 else v' - tot, S) ∧ IsL S.2 (wS S.2 x) (fun s => s < 2 ^ nIt S.2) v' := by
        intro m
        induction m with
        | zero =>
          intro k v hk hI
          rw [q_277_20, en, ishl_n _ (by first | decide | omega), if_neg (by first | decide | omega)]
          have : k = 2 ^ nIt S.2 := by omega
          subst this
          exact ⟨v, rfl, hI⟩
        | succ m ih =>
          intro k v hk hI
          obtain ⟨r, f1, f2, f3⟩ := m_hasFloors (L := L) (xs := xs) (d := d + 2) hU k (by first | decide | omega)
          have e1 : (k : Int) + 1 = ((k + 1 : Nat) : Int) := by omega
          have hkeep : (¬ (flO S.2 k ∧ wS S.2 x < wS S.2 k) ∨ (v ≠ -1 ∧ v ≤ sS S.2 k)) → IsL S.2 (wS S.2 x) (fun s => s < k + 1) v := fun hz => (hI.grow (B := fun s => s = k) (fun s hs => by subst hs; exact hz)).ext (fun s => by omega)
          have htake : (flO S.2 k ∧ wS S.2 x < wS S.2 k) → (v = -1 ∨ sS S.2 k < v) → IsL S.2 (wS S.2 x) (fun s => s < k + 1) (sS S.2 k) := fun hz hq => (hI.take (fun s => (sS_bd hB s).1) hz hq).ext (fun s => by omega)
          rw [q_277_20, en, ishl_n _ (by first | decide | omega), if_pos (by first | decide | omega), f1, bR, w32e (by first | decide | omega) (by first | decide | omega), e1]
          rcases f2 with hr | hr
          · rw [if_pos hr]
            exact ih (k + 1) v (by first | decide | omega) (hkeep (Or.inl (fun z => by have := f3.mpr z.1; omega)))
          · have hfl := f3.mp hr
            rw [if_neg (by first | decide | omega), m_worthOf hU k (by first | decide | omega), bR, m_worthOf hU x (by first | decide | omega), bR]
            by_cases h2 : wS S.2 x < wS S.2 k
            · rw [if_pos h2, m_sumOf hU k (by first | decide | omega), bR]
              have hk1 := hgt k (by first | decide | omega) ⟨hfl, h2⟩
              have hk2 := sS_bd hB k
              have hnew : (if sS S.2 k = -1 then (0 : Int) else sS S.2 k - tot) = sS S.2 k - tot := if_neg (by first | decide | omega)
              rw [w64e (x := sS S.2 k - tot) (by first | decide | omega) (by first | decide | omega)]
              simp only [lc_eq, lc_lt]
              by_cases h3 : v = -1
              · rw [if_pos h3, if_pos rfl]
                have := ih (k + 1) (sS S.2 k) (by first | decide | omega) (htake ⟨hfl, h2⟩ (Or.inl h3))
                rw [hnew] at this
                exact this
              · have hv : tot < v := by
                  rcases (show IsL S.2 (wS S.2 x) (fun s => s < k) v from hI) with ⟨q, -⟩ | ⟨y, ay, cy, q, -⟩
                  · exact absurd q h3
                  · have ay : y < k := ay
                    rw [q]
                    exact hgt y (by first | decide | omega) cy
                rw [if_neg h3, if_neg (by first | decide | omega)]
                by_cases h4 : sS S.2 k < v
                · rw [if_pos (by first | decide | omega)]
                  have := ih (k + 1) (sS S.2 k) (by first | decide | omega) (htake ⟨hfl, h2⟩ (Or.inr h4))
                  rw [hnew] at this
                  exact this
                · rw [if_neg (by first | decide | omega)]
                  have := ih (k + 1) v (by first | decide | omega) (hkeep (Or.inr ⟨h3, by omega⟩))
                  rw [if_neg h3] at this
                  exact this
            · rw [if_neg h2]
              exact ih (k + 1) v (by first | decide | omega) (hkeep (Or.inl (fun z => h2 z.2)))
      obtain ⟨v, k1, k2⟩ := key (2 ^ nIt S.2) 0 (-1) (by first | decide | omega) (Or.inl ⟨rfl, fun s hs => by omega⟩)
      refine ⟨if v = -1 then 0 else v - tot, ?_, (x : Int), m2', fun q => absurd q hb, fun m hm => ⟨v, ?_, rfl⟩⟩
      · rw [q_277, m1, bR, if_neg hb]
        exact k1
      · have : m = x := by omega
        subst this
        exact k2
theorem o_more (H : Inv S) (t : Int) : Ok L xs 35 277 [vi t] S := by
  by_cases hc : 0 ≤ t ∧ t ≤ 1000000000
  · obtain ⟨S1, r, x1, x2, b, x3, x4, x5⟩ := x_more (L := L) (xs := xs) (d := 198) H.gu t hc (by decide)
    obtain ⟨r2, m1, b2, m3, m4, m5⟩ := m_more (L := L) (xs := xs) (d := 196) (x2.gu H.gu) t hc
    have m3 := x2.isB m3
    obtain ⟨z1, z2, z3, z4⟩ := x2.sets
    rw [z1] at m3
    have e : b2 = b := m3.one x3
    have er : r2 = r := by
      rcases x3 with ⟨q, -⟩ | ⟨m, q, -⟩
      · rw [x4 q, m4 (e.trans q)]
      · obtain ⟨v, y1, y2⟩ := x5 m q
        obtain ⟨v2, y3, y4⟩ := m5 m (e.trans q)
        have y3 := x2.isL y3
        rw [z1, z2] at y3
        rw [y2, y4, y3.one y1]
    rw [er] at m1
    refine ⟨r, S1, S1, ?_, m1, x2.inv H, Gw.of x2.1⟩
    rw [q_35, x_isSum, bR]
    simp only [bi_0]
    rw [if_neg (fun z => z hc), x1, bR]
  · obtain ⟨b2, m1, m2⟩ := m_best (L := L) (xs := xs) (d := 196) H.gu t
    rw [if_neg hc] at m1
    refine Ok.same (r := -1) H ?_ ?_
    · rw [q_35, x_isSum, bR]
      simp only [bi_0]
      rw [if_pos hc]
    · rw [q_277, m1, bR, if_pos rfl]
end
end
section
-- 29.fore
/-! foretold -/
/-- the reference's loop over the last weeks -/
noncomputable def ftL (f g : Int → Int) (base what : Int) : Nat → Int → Int → Int → Int → Int
  | 0, _, mine, bef, best => if bef = 0 then base else if what = 0 then ldiv (w64 (base * mine)) bef else best
  | m + 1, p, mine, bef, best => if p < 0 ∨ g p = 0 then ftL f g base what m (p + 1) mine bef best
    else ftL f g base what m (p + 1) (w64 (mine + f p)) (w64 (bef + g p)) (if best = -1 ∨ (if what = 1 then ldiv (w64 (base * f p)) (g p) < best else best < ldiv (w64 (base * f p)) (g p)) then ldiv (w64 (base * f p)) (g p) else best)
noncomputable def yN (h : Nat → Nat → Int) : Int := h 72 2 / 360
noncomputable def wN (h : Nat → Nat → Int) : Int := h 72 2 % 360 / 7
/-- foretold: of the tax k for the week w -/
noncomputable def ft (h : Nat → Nat → Int) (k w what : Int) : Int := ftL (fun p => cme h k (yN h) p) (fun p => cme h k (yN h - 1) p) (cme h k (yN h - 1) w) what 4 (wN h - 4) 0 0 (-1)
theorem cme_bd {h : Nat → Nat → Int} (hW : GW h) {k y w : Int} (hk : 0 ≤ k ∧ k < 6) (hy : y < 10) (hw : 0 ≤ w ∧ w < 52) : 0 ≤ cme h k y w ∧ cme h k y w ≤ 1000000000 := by
  unfold cme
  split
  · exact (hW.1 (tpl k y w) (by unfold tpl; omega)).2
  · omega
section
variable {L : Nat} {xs : Nat → Int} {d : Nat} {S : AH}
theorem m_ftL (hT : GT S.2) (hW : GW S.2) {k w what : Int} (hk : 0 ≤ k ∧ k < 6) : ∀ (m : Nat) (p mine bef best base : Int), p + m = wN S.2 → -4 ≤ p →
    LQ (WK L xs) (ev (WK L xs) (d + 1)) 283 37 [some (vr 72), some (vi k), none, some (vi what), some (vi (yN S.2)), some (vl base), none, some (vl mine), none, some (vl bef), none, some (vl best), none, some (vi p), none, none] [] S = some (ftL (fun p => cme S.2 k (yN S.2) p) (fun p => cme S.2 k (yN S.2 - 1) p) base what m p mine bef best, S) := by
  have ht := hT
  unfold GT at ht
  have hy : 0 ≤ yN S.2 ∧ yN S.2 < 10 := by unfold yN; omega
  have hwk : 0 ≤ wN S.2 ∧ wN S.2 < 52 := by unfold wN; omega
  intro m
  induction m with
  | zero =>
    intro p mine bef best base hp hp4
    rw [q_283_37, m_wk hT, bR]
    have e : S.2 72 2 % 360 / 7 = p := by unfold wN at hp; omega
    rw [e, if_neg (by first | decide | omega)]
    simp only [lc_eq, ftL]
    by_cases h1 : bef = 0
    · rw [if_pos h1, if_pos h1]
    · rw [if_neg h1, if_neg h1]
      by_cases h2 : what = 0
      · rw [if_pos h2, if_pos h2, if_neg h1]
      · rw [if_neg h2, if_neg h2, if_neg h1]
  | succ m ih =>
    intro p mine bef best base hp hp4
    rw [q_283_37, m_wk hT, bR]
    have e : S.2 72 2 % 360 / 7 = wN S.2 := rfl
    rw [e, if_pos (by first | decide | omega), w32e (x := p + 1) (by first | decide | omega) (by first | decide | omega)]
    simp only [ftL]
    by_cases h0 : p < 0
    · rw [if_pos h0, if_pos (Or.inl h0)]
      exact ih (p + 1) mine bef best base (by first | decide | omega) (by first | decide | omega)
    · have hw : 0 ≤ p ∧ p < 52 := by omega
      rw [if_neg h0, w32e (x := yN S.2 - 1) (by first | decide | omega) (by first | decide | omega), m_cameIn k _ p hk (by first | decide | omega) hw, bR]
      simp only [lc_eq]
      by_cases h1 : cme S.2 k (yN S.2 - 1) p = 0
      · rw [if_pos h1, if_pos (Or.inr h1)]
        exact ih (p + 1) mine bef best base (by first | decide | omega) (by first | decide | omega)
      · rw [if_neg h1, if_neg (by first | decide | omega)]
        simp only [m_cameIn k (yN S.2) p hk hy.2 hw, m_cameIn k (yN S.2 - 1) p hk (by first | decide | omega) hw, bR]
        rw [if_neg h1]
        simp only [lc_lt, lc_gt]
        by_cases h2 : best = -1
        · rw [if_pos h2, if_pos (Or.inl h2)]
          exact ih (p + 1) _ _ _ base (by first | decide | omega) (by first | decide | omega)
        · rw [if_neg h2]
          by_cases h3 : what = 1
          · rw [if_pos h3]
            by_cases h4 : ldiv (w64 (base * cme S.2 k (yN S.2) p)) (cme S.2 k (yN S.2 - 1) p) < best
            · rw [if_pos h4, if_pos (Or.inr (by rw [if_pos h3]; exact h4))]
              exact ih (p + 1) _ _ _ base (by first | decide | omega) (by first | decide | omega)
            · rw [if_neg h4, if_neg (by rw [if_pos h3]; omega)]
              exact ih (p + 1) _ _ _ base (by first | decide | omega) (by first | decide | omega)
          · rw [if_neg h3]
            by_cases h4 : best < ldiv (w64 (base * cme S.2 k (yN S.2) p)) (cme S.2 k (yN S.2 - 1) p)
            · rw [if_pos h4, if_pos (Or.inr (by rw [if_neg h3]; exact h4))]
              exact ih (p + 1) _ _ _ base (by first | decide | omega) (by first | decide | omega)
            · rw [if_neg h4, if_neg (by rw [if_neg h3]; omega)]
              exact ih (p + 1) _ _ _ base (by first | decide | omega) (by first | decide | omega)
theorem m_foretells (hT : GT S.2) (hW : GW S.2) {k w what : Int} (hk : 0 ≤ k ∧ k < 6) (hw : 0 ≤ w ∧ w < 52) : ev (WK L xs) (d + 2) 283 [vr 72, vi k, vi w, vi what] S = some (ft S.2 k w what, S) := by
  have ht := hT
  unfold GT at ht
  have hy : 0 ≤ yN S.2 ∧ yN S.2 < 10 := by unfold yN; omega
  have hwk : 0 ≤ wN S.2 ∧ wN S.2 < 52 := by unfold wN; omega
  rw [q_283, m_yr hT, bR]
  have e1 : S.2 72 2 / 360 = yN S.2 := rfl
  have e2 : S.2 72 2 % 360 / 7 = wN S.2 := rfl
  rw [e1, w32e (x := yN S.2 - 1) (by first | decide | omega) (by first | decide | omega), m_cameIn k _ w hk (by first | decide | omega) hw, bR, m_wk hT, bR, e2, w32e (by first | decide | omega) (by first | decide | omega)]
  exact m_ftL (w := w) hT hW hk 4 _ _ _ _ _ (by first | decide | omega) (by first | decide | omega)
/-- a part of a whole is no more than it -/
theorem ldv_bd {a b c : Int} (ha : 0 ≤ a ∧ a ≤ 1000000000) (hb : 0 ≤ b ∧ b ≤ 1000000000) (hc : 0 < c) : 0 ≤ ldiv (w64 (a * b)) c ∧ ldiv (w64 (a * b)) c ≤ 1000000000000000000 := by
  have h1 : 0 ≤ a * b := Int.mul_nonneg ha.1 hb.1
  have h2 : a * b ≤ 1000000000 * 1000000000 := Int.mul_le_mul ha.2 hb.2 hb.1 (by decide)
  rw [w64e (by first | decide | omega) (by first | decide | omega)]
  unfold ldiv
  rw [Int.tdiv_eq_ediv_of_nonneg h1]
  have h3 : 0 ≤ a * b / c := Int.ediv_nonneg h1 (by first | decide | omega)
  have h4 : a * b / c ≤ a * b := Int.ediv_le_self _ h1
  rw [w64e (by first | decide | omega) (by first | decide | omega)]
  omega
theorem x_ftL (hW : GW S.2) {k what day : Int} (hk : 0 ≤ k ∧ k < 6) (hwh : 0 ≤ what ∧ what ≤ 2) (hd1 : 0 ≤ day) (hd2 : day < 3600) : ∀ (m : Nat) (p mine bef best base lo hi : Int), p + m = day % 360 / 7 → 0 ≤ p → m ≤ 4 → (0 ≤ base ∧ base ≤ 1000000000) → (0 ≤ bef ∧ bef + (m : Int) * 1000000000 ≤ 4000000000) → (bef = 0 → best = -1 ∧ hi = 0) → (bef ≠ 0 → best ≠ -1 ∧ (what = 1 → best = lo) ∧ (what = 2 → best = hi ∧ 0 ≤ hi)) →
    LQ (WK L xs) (ev (WK L xs) (d + 2)) 182 44 [some (vr 54), some (vi k), none, some (vi what), some (vi day), some (vi (day / 360)), some (vl base), none, some (vl bef), none, some (vl mine), none, some (vl lo), none, some (vl hi), none, some (vi p), none, none, none, none] [] S = some (ftL (fun p => cme S.2 k (day / 360) p) (fun p => cme S.2 k (day / 360 - 1) p) base what m p mine bef best, S) := by
  intro m
  induction m with
  | zero =>
    intro p mine bef best base lo hi hp hp0 hm hb hbef h1 h2
    rw [q_182_44, x_wk hd1 hd2, bR, if_neg (by first | decide | omega)]
    simp only [lc_eq, ftL]
    by_cases e1 : bef = 0
    · rw [if_pos e1, if_pos e1]
    · obtain ⟨g0, g1, g2⟩ := h2 e1
      rw [if_neg e1, if_neg e1]
      by_cases e2 : what = 0
      · rw [if_pos e2, if_pos e2, if_neg e1]
      · rw [if_neg e2, if_neg e2]
        by_cases e3 : what = 1
        · rw [if_pos e3, g1 e3, if_neg e1]
        · rw [if_neg e3, (g2 (by first | decide | omega)).1, if_neg e1]
  | succ m ih =>
    intro p mine bef best base lo hi hp hp0 hm hb hbef h1 h2
    have hw : 0 ≤ p ∧ p < 52 := by omega
    have hf := cme_bd hW (k := k) (y := day / 360) (w := p) hk (by first | decide | omega) hw
    have hg := cme_bd hW (k := k) (y := day / 360 - 1) (w := p) hk (by first | decide | omega) hw
    rw [q_182_44, x_wk hd1 hd2, bR, if_pos (by first | decide | omega), w32e (x := day / 360 - 1) (by first | decide | omega) (by first | decide | omega), x_arrivedIn hW k _ p hk (by first | decide | omega) hw, bR, w32e (x := p + 1) (by first | decide | omega) (by first | decide | omega)]
    simp only [lc_gt, lc_eq, ftL]
    by_cases e1 : cme S.2 k (day / 360 - 1) p = 0
    · rw [if_neg (by first | decide | omega), if_pos (Or.inr e1)]
      exact ih (p + 1) mine bef best base lo hi (by first | decide | omega) (by first | decide | omega) (by first | decide | omega) hb (by first | decide | omega) h1 h2
    · rw [if_pos (by first | decide | omega), if_neg (by first | decide | omega)]
      simp only [x_arrivedIn hW k (day / 360) p hk (by first | decide | omega) hw, bR]
      rw [if_neg e1]
      have hv := ldv_bd (c := cme S.2 k (day / 360 - 1) p) hb hf (by first | decide | omega)
      have hbf : w64 (bef + cme S.2 k (day / 360 - 1) p) = bef + cme S.2 k (day / 360 - 1) p := w64e (by first | decide | omega) (by first | decide | omega)
      by_cases e2 : bef = 0
      · obtain ⟨g1, g3⟩ := h1 e2
        rw [if_pos e2, q_182_110, x_arrivedIn hW k (day / 360) p hk (by first | decide | omega) hw, bR, w32e (x := p + 1) (by first | decide | omega) (by first | decide | omega), hbf]
        refine ih (p + 1) _ _ _ base _ _ (by first | decide | omega) (by first | decide | omega) (by first | decide | omega) hb (by first | decide | omega) (fun z => by omega) (fun _ => ?_)
        rw [if_pos (Or.inl g1), g3]
        refine ⟨by omega, fun _ => rfl, fun _ => by omega⟩
      · obtain ⟨g0, g1, g2⟩ := h2 e2
        rw [if_neg e2, q_182_110, x_arrivedIn hW k (day / 360) p hk (by first | decide | omega) hw, bR, w32e (x := p + 1) (by first | decide | omega) (by first | decide | omega), hbf]
        refine ih (p + 1) _ _ _ base _ _ (by first | decide | omega) (by first | decide | omega) (by first | decide | omega) hb (by first | decide | omega) (fun z => by omega) (fun _ => ?_)
        by_cases e3 : what = 1
        · have g1 := g1 e3
          subst g1
          by_cases e4 : ldiv (w64 (base * cme S.2 k (day / 360) p)) (cme S.2 k (day / 360 - 1) p) < best
          · rw [if_pos (Or.inr (by rw [if_pos e3]; exact e4))]
            exact ⟨by omega, fun _ => by omega, fun z => by omega⟩
          · rw [if_neg (by rw [if_pos e3]; omega)]
            exact ⟨g0, fun _ => by omega, fun z => by omega⟩
        · by_cases e4 : best < ldiv (w64 (base * cme S.2 k (day / 360) p)) (cme S.2 k (day / 360 - 1) p)
          · rw [if_pos (Or.inr (by rw [if_neg e3]; exact e4))]
            exact ⟨by omega, fun z => by omega, fun z => by have := g2 z; omega⟩
          · rw [if_neg (by rw [if_neg e3]; omega)]
            exact ⟨g0, fun z => by omega, fun z => by have := g2 z; omega⟩
/-- weeks that never were are passed over -/
theorem ftL_skip {f g : Int → Int} {base what : Int} : ∀ (j m : Nat) (p mine bef best : Int), p + j ≤ 0 → ftL f g base what (j + m) p mine bef best = ftL f g base what m (p + j) mine bef best := by
  intro j
  induction j with
  | zero =>
    intro m p mine bef best h
    rw [Nat.zero_add, show p + ((0 : Nat) : Int) = p by omega]
  | succ j ih =>
    intro m p mine bef best h
    have e : j + 1 + m = (j + m) + 1 := by omega
    rw [e]
    show (if p < 0 ∨ g p = 0 then _ else _) = _
    rw [if_pos (Or.inl (by first | decide | omega)), ih m (p + 1) mine bef best (by first | decide | omega)]
    congr 1
    omega
theorem x_foreseen (hT : GT S.2) (hW : GW S.2) {k w what : Int} (hk : 0 ≤ k ∧ k < 6) (hw : 0 ≤ w ∧ w < 52) (hwh : 0 ≤ what ∧ what ≤ 2) : ev (WK L xs) (d + 3) 182 [vr 54, vi k, vi w, vi what, vi (S.2 72 2)] S = some (ft S.2 k w what, S) := by
  have ht := hT
  unfold GT at ht
  have hy : 0 ≤ S.2 72 2 / 360 ∧ S.2 72 2 / 360 < 10 := by omega
  have hwk : 0 ≤ S.2 72 2 % 360 / 7 ∧ S.2 72 2 % 360 / 7 < 52 := by omega
  have hb := cme_bd hW (k := k) (y := S.2 72 2 / 360 - 1) (w := w) hk (by first | decide | omega) hw
  rw [q_182, x_yr ht.2.1 ht.2.2, bR, w32e (x := S.2 72 2 / 360 - 1) (by first | decide | omega) (by first | decide | omega), x_arrivedIn hW k _ w hk (by first | decide | omega) hw, bR, x_wk ht.2.1 ht.2.2, bR, w32e (by first | decide | omega) (by first | decide | omega)]
  unfold ft
  have e1 : yN S.2 = S.2 72 2 / 360 := rfl
  have e2 : wN S.2 = S.2 72 2 % 360 / 7 := rfl
  rw [e1, e2]
  by_cases h4 : 4 ≤ S.2 72 2 % 360 / 7
  · rw [Int.max_eq_right (by first | decide | omega)]
    exact x_ftL hW hk hwh ht.2.1 ht.2.2 4 _ _ _ _ _ _ _ (by first | decide | omega) (by first | decide | omega) (by first | decide | omega) hb (by first | decide | omega) (fun _ => ⟨rfl, rfl⟩) (fun z => absurd rfl z)
  · rw [Int.max_eq_left (by first | decide | omega)]
    obtain ⟨j, hj⟩ : ∃ j : Nat, (j : Int) = 4 - S.2 72 2 % 360 / 7 := ⟨(4 - S.2 72 2 % 360 / 7).toNat, by omega⟩
    obtain ⟨m, hm⟩ : ∃ m : Nat, (m : Int) = S.2 72 2 % 360 / 7 := ⟨(S.2 72 2 % 360 / 7).toNat, by omega⟩
    have e4 : (4 : Nat) = j + m := by omega
    have hs := ftL_skip (f := fun p => cme S.2 k (S.2 72 2 / 360) p) (g := fun p => cme S.2 k (S.2 72 2 / 360 - 1) p) (base := cme S.2 k (S.2 72 2 / 360 - 1) w) (what := what) j m (S.2 72 2 % 360 / 7 - 4) 0 0 (-1) (by first | decide | omega)
    rw [← e4, show S.2 72 2 % 360 / 7 - 4 + (j : Int) = 0 by omega] at hs
    rw [hs]
    exact x_ftL hW hk hwh ht.2.1 ht.2.2 m 0 _ _ _ _ _ _ (by first | decide | omega) (by first | decide | omega) (by first | decide | omega) hb (by first | decide | omega) (fun _ => ⟨rfl, rfl⟩) (fun z => absurd rfl z)
theorem o_foretold (H : Inv S) (k w what : Int) : Ok L xs 41 282 [vi k, vi w, vi what] S := by
  have ht := H.gt
  unfold GT at ht
  by_cases hc : (0 ≤ k ∧ k < 6) ∧ (S.2 72 2 % 360 / 7 < w ∧ w < 52) ∧ (0 ≤ what ∧ what ≤ 2)
  · have hw : 0 ≤ w ∧ w < 52 := by omega
    refine Ok.same (r := ft S.2 k w what) H ?_ ?_
    · rw [q_41]
      simp only [x_isTax, x_isWeek, bR, bi_0]
      rw [if_neg (fun z => z hc.1), if_neg (fun z => z hw), if_neg (by first | decide | omega), if_neg (by first | decide | omega), ht.1, x_wk ht.2.1 ht.2.2, bR, if_pos hc.2.1.1, ht.1, x_foreseen H.gt H.gw hc.1 hw hc.2.2, bR]
    · rw [q_282]
      simp only [m_lies, m_wk H.gt, bR, bi_0]
      rw [w32e (by first | decide | omega) (by first | decide | omega), if_neg (by first | decide | omega), if_neg (by first | decide | omega), if_neg (by first | decide | omega), m_foretells H.gt H.gw hc.1 hw, bR]
  · refine Ok.same (r := -1) H ?_ ?_
    · rw [q_41]
      simp only [x_isTax, x_isWeek, bR, bi_0]
      by_cases h1 : 0 ≤ k ∧ k < 6
      · rw [if_neg (fun z => z h1)]
        by_cases h2 : 0 ≤ w ∧ w < 52
        · rw [if_neg (fun z => z h2)]
          by_cases h3 : what < 0
          · rw [if_pos h3]
          · rw [if_neg h3]
            by_cases h4 : 2 < what
            · rw [if_pos h4]
            · rw [if_neg h4, ht.1, x_wk ht.2.1 ht.2.2, bR, if_neg (by first | decide | omega)]
        · rw [if_pos h2]
      · rw [if_pos h1]
    · rw [q_282]
      simp only [m_lies, m_wk H.gt, bR, bi_0]
      rw [w32e (by first | decide | omega) (by first | decide | omega)]
      by_cases h1 : 0 ≤ k ∧ k < 6
      · rw [if_neg (by first | decide | omega)]
        by_cases h2 : S.2 72 2 % 360 / 7 + 1 ≤ w ∧ w ≤ 51
        · rw [if_neg (fun z => z h2), if_pos (by first | decide | omega)]
        · rw [if_pos h2]
      · rw [if_pos (by first | decide | omega)]
end
end
section
-- 30.pop
/-! how many bits -/
noncomputable def pc8 (x : Nat) : Nat := ((x % 2 + x / 2 % 2) + (x / 4 % 2 + x / 8 % 2)) + ((x / 16 % 2 + x / 32 % 2) + (x / 64 % 2 + x / 128 % 2))
noncomputable def pcn (x : Nat) : Nat := pc8 (x % 256) + pc8 (x / 256)
noncomputable def sb1 (x : Nat) : Nat := x - ((x >>> 1) &&& 1431655765)
noncomputable def sb2 (x : Nat) : Nat := (x &&& 858993459) + ((x >>> 2) &&& 858993459)
noncomputable def sb3 (x : Nat) : Nat := (x + (x >>> 4)) &&& 252645135
noncomputable def sb4 (x : Nat) : Nat := x + (x >>> 8)
noncomputable def sb5 (x : Nat) : Nat := (x + (x >>> 16)) &&& 63
/-- what the three first steps do to a byte -/
noncomputable def b1 (a : Nat) : Nat := a - ((a / 2) &&& 85)
noncomputable def b2 (a : Nat) : Nat := (a &&& 51) + ((a / 4) &&& 51)
noncomputable def b3 (a : Nat) : Nat := (a + a / 16) % 16
theorem byte_ok : ((List.range 256).all fun a => Nat.ble ((a / 2) &&& 85) a && Nat.ble (b1 a) 255 && Nat.ble (b2 (b1 a)) 68 && Nat.ble (b2 (b1 a) % 16) 4 && Nat.beq (b3 (b2 (b1 a))) (pc8 a) && Nat.beq ((a / 2 + 128) &&& 85) ((a / 2) &&& 85) && Nat.ble (pc8 a) 8 && Nat.ble ((a / 2) &&& 85) 127 && Nat.beq ((a / 4 + 64) &&& 51) ((a / 4) &&& 51) && Nat.beq ((a / 4 + 128) &&& 51) ((a / 4) &&& 51) && Nat.beq ((a / 4 + 192) &&& 51) ((a / 4) &&& 51) && (Nat.beq a 0 || (Nat.beq (pc8 (a &&& (a - 1)) + 1) (pc8 a) && Nat.blt (a &&& (a - 1)) a))) = true := by decide +kernel
theorem byte_at {a : Nat} (h : a < 256) : ((a / 2) &&& 85 ≤ a ∧ b1 a ≤ 255 ∧ b2 (b1 a) ≤ 68 ∧ b2 (b1 a) % 16 ≤ 4 ∧ b3 (b2 (b1 a)) = pc8 a ∧ (a / 2 + 128) &&& 85 = (a / 2) &&& 85 ∧ pc8 a ≤ 8 ∧ (a / 2) &&& 85 ≤ 127) ∧ ((a / 4 + 64) &&& 51 = (a / 4) &&& 51 ∧ (a / 4 + 128) &&& 51 = (a / 4) &&& 51 ∧ (a / 4 + 192) &&& 51 = (a / 4) &&& 51) ∧ (a ≠ 0 → pc8 (a &&& (a - 1)) + 1 = pc8 a ∧ a &&& (a - 1) < a) := by
  have q := List.all_eq_true.mp byte_ok a (List.mem_range.mpr h)
  simp only [Bool.and_eq_true, Bool.or_eq_true] at q
  obtain ⟨⟨⟨⟨⟨⟨⟨⟨⟨⟨⟨q1, q2⟩, q3⟩, q4⟩, q5⟩, q6⟩, q7⟩, q8⟩, q9⟩, q10⟩, q11⟩, q12⟩ := q
  refine ⟨⟨Nat.le_of_ble_eq_true q1, Nat.le_of_ble_eq_true q2, Nat.le_of_ble_eq_true q3, Nat.le_of_ble_eq_true q4, Nat.eq_of_beq_eq_true q5, Nat.eq_of_beq_eq_true q6, Nat.le_of_ble_eq_true q7, Nat.le_of_ble_eq_true q8⟩, ⟨Nat.eq_of_beq_eq_true q9, Nat.eq_of_beq_eq_true q10, Nat.eq_of_beq_eq_true q11⟩, fun h0 => ?_⟩
  rcases q12 with z | z
  · exact absurd (Nat.eq_of_beq_eq_true z) h0
  · exact ⟨Nat.eq_of_beq_eq_true z.1, Nat.blt_eq.mp z.2⟩
/-- masks work byte by byte -/
theorem and_by (x m : Nat) : x &&& m = ((x % 256) &&& (m % 256)) + 256 * ((x / 256) &&& (m / 256)) := by
  have h1 : (x &&& m) % 2 ^ 8 = (x % 2 ^ 8) &&& (m % 2 ^ 8) := Nat.and_mod_two_pow
  have h2 : (x &&& m) / 2 ^ 8 = (x / 2 ^ 8) &&& (m / 2 ^ 8) := Nat.and_div_two_pow
  have e : (2 : Nat) ^ 8 = 256 := rfl
  rw [e] at h1 h2
  omega
theorem and_lo {x m : Nat} (h : x < 256) : x &&& m = x &&& (m % 256) := by
  rw [and_by x m, Nat.mod_eq_of_lt h, Nat.div_eq_of_lt h]
  simp
theorem pst1 {a b : Nat} (ha : a < 256) (hb : b < 256) : sb1 (a + 256 * b) = b1 a + 256 * b1 b ∧ ((a + 256 * b) >>> 1) &&& 1431655765 ≤ a + 256 * b := by
  obtain ⟨⟨p1, p2, -, -, -, p6, -, -⟩, -⟩ := byte_at ha
  obtain ⟨⟨r1, r2, -⟩, -⟩ := byte_at hb
  have e : ((a + 256 * b) >>> 1) &&& 1431655765 = ((a / 2) &&& 85) + 256 * ((b / 2) &&& 85) := by
    rw [Nat.shiftRight_eq_div_pow, Nat.pow_one, and_by]
    have h1 : (a + 256 * b) / 2 / 256 = b / 2 := by omega
    have h3 : (1431655765 : Nat) % 256 = 85 := rfl
    have h4 : (1431655765 : Nat) / 256 = 5592405 := rfl
    rw [h1, h3, h4, and_lo (x := b / 2) (m := 5592405) (by first | decide | omega)]
    have h5 : (5592405 : Nat) % 256 = 85 := rfl
    rw [h5]
    congr 1
    rcases (show b % 2 = 0 ∨ b % 2 = 1 by omega) with z | z
    · rw [show (a + 256 * b) / 2 % 256 = a / 2 by omega]
    · rw [show (a + 256 * b) / 2 % 256 = a / 2 + 128 by omega, p6]
  unfold sb1
  rw [e]
  unfold b1
  omega
theorem pst2 {a b : Nat} (ha : a < 256) (hb : b < 256) : sb2 (a + 256 * b) = b2 a + 256 * b2 b := by
  obtain ⟨-, ⟨p1, p2, p3⟩, -⟩ := byte_at ha
  have h3 : (858993459 : Nat) % 256 = 51 := rfl
  have h4 : (858993459 : Nat) / 256 = 3355443 := rfl
  have h5 : (3355443 : Nat) % 256 = 51 := rfl
  have e1 : (a + 256 * b) &&& 858993459 = (a &&& 51) + 256 * (b &&& 51) := by
    rw [and_by, show (a + 256 * b) % 256 = a by omega, show (a + 256 * b) / 256 = b by omega, h3, h4, and_lo (x := b) (m := 3355443) hb, h5]
  have e2 : ((a + 256 * b) >>> 2) &&& 858993459 = ((a / 4) &&& 51) + 256 * ((b / 4) &&& 51) := by
    rw [Nat.shiftRight_eq_div_pow, show (2 : Nat) ^ 2 = 4 from rfl, and_by, show (a + 256 * b) / 4 / 256 = b / 4 by omega, h3, h4, and_lo (x := b / 4) (m := 3355443) (by first | decide | omega), h5]
    congr 1
    rcases (show b % 4 = 0 ∨ b % 4 = 1 ∨ b % 4 = 2 ∨ b % 4 = 3 by omega) with z | z | z | z
    · rw [show (a + 256 * b) / 4 % 256 = a / 4 by omega]
    · rw [show (a + 256 * b) / 4 % 256 = a / 4 + 64 by omega, p1]
    · rw [show (a + 256 * b) / 4 % 256 = a / 4 + 128 by omega, p2]
    · rw [show (a + 256 * b) / 4 % 256 = a / 4 + 192 by omega, p3]
  unfold sb2
  rw [e1, e2]
  unfold b2
  omega
theorem pst3 {a b : Nat} (ha : a ≤ 68) (hb : b ≤ 68) (hb4 : b % 16 ≤ 4) : sb3 (a + 256 * b) = b3 a + 256 * b3 b := by
  have h3 : (252645135 : Nat) % 256 = 2 ^ 4 - 1 := rfl
  have h4 : (252645135 : Nat) / 256 = 986895 := rfl
  have h5 : (986895 : Nat) % 256 = 2 ^ 4 - 1 := rfl
  unfold sb3
  rw [Nat.shiftRight_eq_div_pow, show (2 : Nat) ^ 4 = 16 from rfl, and_by]
  have e1 : (a + 256 * b + (a + 256 * b) / 16) % 256 = a + a / 16 + 16 * (b % 16) := by omega
  have e2 : (a + 256 * b + (a + 256 * b) / 16) / 256 = b + b / 16 := by omega
  rw [e1, e2, h3, h4, and_lo (x := b + b / 16) (m := 986895) (by first | decide | omega), h5, Nat.and_two_pow_sub_one_eq_mod, Nat.and_two_pow_sub_one_eq_mod]
  unfold b3
  omega
theorem pop_at {x : Nat} (h : x < 65536) : sb5 (sb4 (sb3 (sb2 (sb1 x)))) = pcn x ∧ (x >>> 1) &&& 1431655765 ≤ x ∧ sb2 (sb1 x) ≤ 65535 ∧ sb1 x ≤ 65535 ∧ sb3 (sb2 (sb1 x)) ≤ 65535 ∧ sb4 (sb3 (sb2 (sb1 x))) ≤ 65535 := by
  obtain ⟨⟨-, p2, p3, p4, p5, -, p7, -⟩, -⟩ := byte_at (a := x % 256) (by first | decide | omega)
  obtain ⟨⟨-, r2, r3, r4, r5, -, r7, -⟩, -⟩ := byte_at (a := x / 256) (by first | decide | omega)
  have e : x = x % 256 + 256 * (x / 256) := by omega
  obtain ⟨s1, s1'⟩ := pst1 (a := x % 256) (b := x / 256) (by first | decide | omega) (by first | decide | omega)
  rw [← e] at s1 s1'
  have s2 := pst2 (a := b1 (x % 256)) (b := b1 (x / 256)) (by first | decide | omega) (by first | decide | omega)
  have s3 := pst3 (a := b2 (b1 (x % 256))) (b := b2 (b1 (x / 256))) p3 r3 r4
  rw [s1, s2, s3, p5, r5]
  refine ⟨?_, s1', by omega, by omega, by omega, ?_⟩
  · unfold sb5 sb4
    rw [Nat.shiftRight_eq_div_pow, Nat.shiftRight_eq_div_pow, show (63 : Nat) = 2 ^ 6 - 1 from rfl, Nat.and_two_pow_sub_one_eq_mod]
    have f1 : ∀ A B : Nat, A ≤ 8 → B ≤ 8 → (A + 256 * B + (A + 256 * B) / 256 + (A + 256 * B + (A + 256 * B) / 256) / 65536) % 64 = A + B := by
      intro A B h1 h2
      have e8 : (A + 256 * B) / 256 = B := by omega
      have e9 : (A + 256 * B + B) / 65536 = 0 := Nat.div_eq_of_lt (by first | decide | omega)
      have e10 : A + 256 * B + B + 0 = (A + B) + 64 * (4 * B) := by omega
      rw [e8, e9, e10, Nat.add_mul_mod_self_left]
      exact Nat.mod_eq_of_lt (by first | decide | omega)
    exact f1 _ _ p7 r7
  · unfold sb4
    rw [Nat.shiftRight_eq_div_pow]
    have : (2 : Nat) ^ 8 = 256 := rfl
    omega
theorem low_at {x : Nat} (h : x < 65536) (h0 : x ≠ 0) : pcn (x &&& (x - 1)) + 1 = pcn x ∧ x &&& (x - 1) < x := by
  have hb := and_by x (x - 1)
  by_cases ha : x % 256 = 0
  · have hq := (byte_at (a := x / 256) (by first | decide | omega)).2.2 (by first | decide | omega)
    have e1 : (x - 1) / 256 = x / 256 - 1 := by omega
    rw [ha, e1] at hb
    have e0 : (0 : Nat) &&& ((x - 1) % 256) = 0 := by simp
    rw [e0] at hb
    have hlt := hq.2
    unfold pcn
    have e2 : (x &&& (x - 1)) % 256 = 0 := by omega
    have e3 : (x &&& (x - 1)) / 256 = (x / 256) &&& (x / 256 - 1) := by omega
    rw [e2, e3, ha]
    omega
  · have hq := (byte_at (a := x % 256) (by first | decide | omega)).2.2 ha
    have e1 : (x - 1) / 256 = x / 256 := by omega
    have e4 : (x - 1) % 256 = x % 256 - 1 := by omega
    rw [e1, e4, Nat.and_self] at hb
    have hlt := hq.2
    unfold pcn
    have e2 : (x &&& (x - 1)) % 256 = (x % 256) &&& (x % 256 - 1) := by omega
    have e3 : (x &&& (x - 1)) / 256 = x / 256 := by omega
    rw [e2, e3]
    omega
theorem iushr_n (x y : Nat) (hx : x < 2147483648) (hy : y < 32) : iushr x y = ((x >>> y : Nat) : Int) := by
  have h0 : (((Int32.ofInt (x : Int)).toUInt32 >>> ((Int32.ofInt (y : Int)).toUInt32 &&& Int32.toUInt32 31)).toInt32).toBitVec = (BitVec.ofInt 32 (x : Int)) >>> (((Int32.ofInt (y : Int)).toUInt32 &&& Int32.toUInt32 31) % 32).toBitVec := rfl
  have hm : ((((Int32.ofInt (y : Int)).toUInt32 &&& Int32.toUInt32 31) % 32).toBitVec).toNat = y := by
    show ((BitVec.ofInt 32 (y : Int) &&& 31#32) % 32#32).toNat = y
    rw [BitVec.toNat_umod, BitVec.toNat_and, bv32 y (by first | decide | omega)]
    show (y &&& 31) % 32 = y
    rw [show (31 : Nat) = 2 ^ 5 - 1 from rfl, Nat.and_two_pow_sub_one_eq_mod]
    omega
  have h2 : ((BitVec.ofInt 32 (x : Int)) >>> (((Int32.ofInt (y : Int)).toUInt32 &&& Int32.toUInt32 31) % 32).toBitVec).toNat = x >>> y := by
    rw [BitVec.ushiftRight_eq', BitVec.toNat_ushiftRight, hm, bv32 x hx]
  show (((Int32.ofInt (x : Int)).toUInt32 >>> ((Int32.ofInt (y : Int)).toUInt32 &&& Int32.toUInt32 31)).toInt32).toBitVec.toInt = _
  rw [h0, ti32 (by rw [h2]; exact Nat.lt_of_le_of_lt (Nat.shiftRight_le _ _) hx), h2]
section
variable {L : Nat} {xs : Nat → Int} {d : Nat} {S : AH}
theorem j_bitCount (x : Nat) (h : x < 65536) : ev (WK L xs) (d + 1) 320 [vi x] S = some ((pcn x : Int), S) := by
  obtain ⟨p0, p1, p2, p3, p4, p5⟩ := pop_at h
  have a1 : w32 ((x : Int) - iand (iushr x 1) 1431655765) = ((sb1 x : Nat) : Int) := by
    have e1 := iushr_n x 1 (by first | decide | omega) (by decide)
    have e2 := iand_n (x >>> 1) 1431655765 (Nat.lt_of_le_of_lt (Nat.shiftRight_le _ _) (by first | decide | omega)) (by decide)
    have e1' : iushr (x : Int) 1 = ((x >>> 1 : Nat) : Int) := e1
    have e2' : iand ((x >>> 1 : Nat) : Int) 1431655765 = (((x >>> 1) &&& 1431655765 : Nat) : Int) := e2
    rw [e1', e2', w32e (by first | decide | omega) (by first | decide | omega)]
    unfold sb1
    omega
  have a2 : ∀ y : Nat, y ≤ 65535 → sb2 y ≤ 65535 → w32 (iand (y : Int) 858993459 + iand (iushr y 2) 858993459) = ((sb2 y : Nat) : Int) := by
    intro y hy hs
    have e0 : iand (y : Int) 858993459 = ((y &&& 858993459 : Nat) : Int) := iand_n y 858993459 (by first | decide | omega) (by decide)
    have e1 : iushr (y : Int) 2 = ((y >>> 2 : Nat) : Int) := iushr_n y 2 (by first | decide | omega) (by decide)
    have e2 : iand ((y >>> 2 : Nat) : Int) 858993459 = (((y >>> 2) &&& 858993459 : Nat) : Int) := iand_n (y >>> 2) 858993459 (Nat.lt_of_le_of_lt (Nat.shiftRight_le _ _) (by first | decide | omega)) (by decide)
    unfold sb2 at hs ⊢
    rw [e0, e1, e2, w32e (by first | decide | omega) (by first | decide | omega)]
    omega
  have a3 : ∀ y : Nat, y ≤ 65535 → iand (w32 ((y : Int) + iushr y 4)) 252645135 = ((sb3 y : Nat) : Int) := by
    intro y hy
    have e1 : iushr (y : Int) 4 = ((y >>> 4 : Nat) : Int) := iushr_n y 4 (by first | decide | omega) (by decide)
    have hle := Nat.shiftRight_le y 4
    rw [e1, w32e (by first | decide | omega) (by first | decide | omega)]
    have e2 : iand ((y + (y >>> 4) : Nat) : Int) 252645135 = (((y + (y >>> 4)) &&& 252645135 : Nat) : Int) := iand_n (y + (y >>> 4)) 252645135 (by first | decide | omega) (by decide)
    unfold sb3
    rw [← e2]
    congr 1
  have a4 : ∀ y : Nat, y ≤ 65535 → w32 ((y : Int) + iushr y 8) = ((sb4 y : Nat) : Int) := by
    intro y hy
    have e1 : iushr (y : Int) 8 = ((y >>> 8 : Nat) : Int) := iushr_n y 8 (by first | decide | omega) (by decide)
    have hle := Nat.shiftRight_le y 8
    rw [e1, w32e (by first | decide | omega) (by first | decide | omega)]
    unfold sb4
    omega
  have a5 : ∀ y : Nat, y ≤ 65535 → iand (w32 ((y : Int) + iushr y 16)) 63 = ((sb5 y : Nat) : Int) := by
    intro y hy
    have e1 : iushr (y : Int) 16 = ((y >>> 16 : Nat) : Int) := iushr_n y 16 (by first | decide | omega) (by decide)
    have hle := Nat.shiftRight_le y 16
    rw [e1, w32e (by first | decide | omega) (by first | decide | omega)]
    have e2 : iand ((y + (y >>> 16) : Nat) : Int) 63 = (((y + (y >>> 16)) &&& 63 : Nat) : Int) := iand_n (y + (y >>> 16)) 63 (by first | decide | omega) (by decide)
    unfold sb5
    rw [← e2]
    congr 1
  rw [q_320, a1, a2 (sb1 x) p3 p2, a3 (sb2 (sb1 x)) p2, a4 (sb3 (sb2 (sb1 x))) p4, a5 (sb4 (sb3 (sb2 (sb1 x)))) p5, p0]
theorem pcn_le {x : Nat} (h : x < 65536) : pcn x ≤ 16 := by
  have h1 := (byte_at (a := x % 256) (by first | decide | omega)).1.2.2.2.2.2.2.1
  have h2 := (byte_at (a := x / 256) (by first | decide | omega)).1.2.2.2.2.2.2.1
  unfold pcn
  omega
theorem m_sizeOf (x : Nat) (h : x < 65536) : ev (WK L xs) (d + 1) 290 [vi x] S = some ((pcn x : Int), S) := by
  have key : ∀ (n x k : Nat), x ≤ n → x < 65536 → k + pcn x ≤ 16 → LQ (WK L xs) (ev (WK L xs) d) 290 4 [none, some (vi (k : Int)), some (vi (x : Int))] [] S = some (((k + pcn x : Nat) : Int), S) := by
    intro n
    induction n with
    | zero =>
      intro x k h1 h2 h3
      have : x = 0 := by omega
      subst this
      rw [q_290_4, if_pos (by rfl)]
      rfl
    | succ n ih =>
      intro x k h1 h2 h3
      by_cases h0 : x = 0
      · subst h0
        rw [q_290_4, if_pos (by rfl)]
        rfl
      · obtain ⟨l1, l2⟩ := low_at h2 h0
        have e1 : w32 ((x : Int) - 1) = ((x - 1 : Nat) : Int) := by
          rw [w32e (by first | decide | omega) (by first | decide | omega)]
          omega
        have e3 : (k : Int) + 1 = ((k + 1 : Nat) : Int) := by omega
        rw [q_290_4, if_neg (by first | decide | omega), e1, iand_n x (x - 1) (by first | decide | omega) (by first | decide | omega), w32e (by first | decide | omega) (by first | decide | omega), e3, ih (x &&& (x - 1)) (k + 1) (by first | decide | omega) (by first | decide | omega) (by first | decide | omega)]
        congr 2
        omega
  rw [q_290]
  have := key x x 0 (Nat.le_refl _) h (by have := pcn_le h; omega)
  rw [Nat.zero_add] at this
  exact this
end
end
section
-- 31.plan
/-! the chest by weeks -/
noncomputable def nOf (h : Nat → Nat → Int) : Nat := (h 72 87).toNat
/-- what comes and goes of itself in the week w -/
noncomputable def inc (h : Nat → Nat → Int) (w : Int) : Int := sm (fun k => ft h k w 1) 6 - h 134 (52 * yN h + w).toNat
/-- what the offer o brings in the week w -/
noncomputable def ofT (h : Nat → Nat → Int) (set : Nat) (w : Int) (o : Nat) : Int := if set.testBit o = true ∧ wN h < h 136 o then (if h 136 o = w then h 135 o else 0) - (if h 136 o + h 137 o = w then h 135 o + h 138 o else 0) else 0
noncomputable def ofr (h : Nat → Nat → Int) (set : Nat) (w : Int) : Int := sm (ofT h set w) (nOf h)
/-- the first week that is short -/
noncomputable def shF (f : Int → Int) : Nat → Int → Int → Int
  | 0, _, _ => -1
  | m + 1, w, a => if w64 (a + f w) < 0 then w else shF f m (w + 1) (w64 (a + f w))
noncomputable def sht (h : Nat → Nat → Int) (set : Nat) : Int := shF (fun w => inc h w + ofr h set w) (51 - wN h).toNat (wN h + 1) (h 72 3)
noncomputable def cst (h : Nat → Nat → Int) (set : Nat) : Int := sm (fun o => if set.testBit o then h 138 o else 0) (nOf h)
section
variable {L : Nat} {xs : Nat → Int} {d : Nat} {S : AH}
theorem GW.n {h : Nat → Nat → Int} (H : GW h) : h 72 87 = (nOf h : Int) ∧ nOf h ≤ 9 := by
  have := H.2.2.2.1
  unfold nOf
  omega
theorem of_bit {s k : Nat} (hs : s < 512) (hk : k < 9) : iand (ishr (s : Int) (k : Int)) 1 = if s.testBit k then 1 else 0 := set_bit (by first | decide | omega) (by first | decide | omega)
theorem wN_bd {h : Nat → Nat → Int} (hT : GT h) : (0 ≤ wN h ∧ wN h < 52) ∧ (0 ≤ yN h ∧ yN h < 10) := by
  unfold GT at hT
  unfold wN yN
  omega
theorem sm_su (f : Nat → Int) (n : Nat) : sm f (n + 1) = sm f n + f n := rfl
theorem m_shk (hT : GT S.2) (hW : GW S.2) {set w : Int} (hw : 0 ≤ w ∧ w < 52) : ∀ (m k : Nat) (x : Int), k + m = 6 → LQ (WK L xs) (ev (WK L xs) (d + 2)) 286 23 [some (vr 72), some (vi set), some (vl x), none, some (vi w), some (vi (k : Int))] [] S = LQ (WK L xs) (ev (WK L xs) (d + 2)) 286 69 [some (vr 72), some (vi set), some (vl (w64 (x + (sm (fun k => ft S.2 k w 1) 6 - sm (fun k => ft S.2 k w 1) k) - S.2 134 (52 * yN S.2 + w).toNat))), none, some (vi w), some (vi 0)] [] S := by
  have hy := (wN_bd hT).2
  intro m
  induction m with
  | zero =>
    intro k x hk
    have e : k = 6 := by omega
    subst e
    rw [q_286_23, if_neg (by first | decide | omega), m_yr hT, bR]
    have e1 : S.2 72 2 / 360 = yN S.2 := rfl
    rw [e1, w32e (x := 52 * yN S.2) (by first | decide | omega) (by first | decide | omega), w32e (by first | decide | omega) (by first | decide | omega), if_pos (by first | decide | omega)]
    rw [show x + (sm (fun k => ft S.2 k w 1) 6 - sm (fun k => ft S.2 k w 1) 6) = x by omega]
  | succ m ih =>
    intro k x hk
    have e1 : (k : Int) + 1 = ((k + 1 : Nat) : Int) := by omega
    rw [q_286_23, if_pos (by first | decide | omega), m_foretells hT hW (by first | decide | omega) hw, bR, w32e (x := (k : Int) + 1) (by first | decide | omega) (by first | decide | omega), e1, ih (k + 1) _ (by first | decide | omega), sm_su (fun k => ft S.2 k w 1) k]
    have e2 : w64 (w64 (x + ft S.2 k w 1) + (sm (fun k => ft S.2 k w 1) 6 - (sm (fun k => ft S.2 k w 1) k + ft S.2 k w 1)) - S.2 134 (52 * yN S.2 + w).toNat) = w64 (x + (sm (fun k => ft S.2 k w 1) 6 - sm (fun k => ft S.2 k w 1) k) - S.2 134 (52 * yN S.2 + w).toNat) := by
      rw [Int.add_sub_assoc, w64_al]
      congr 1
      omega
    rw [e2]
theorem m_sho (hT : GT S.2) (hW : GW S.2) {set : Nat} {w : Int} (hs : set < 512) (hw : 0 ≤ w ∧ w < 52) : ∀ (m o : Nat) (A : Int), o + m = nOf S.2 → LQ (WK L xs) (ev (WK L xs) (d + 1)) 286 69 [some (vr 72), some (vi (set : Int)), some (vl (w64 A)), none, some (vi w), some (vi (o : Int))] [] S = (if w64 (A + (ofr S.2 set w - sm (ofT S.2 set w) o)) < 0 then some (w, S) else LQ (WK L xs) (ev (WK L xs) (d + 1)) 286 13 [some (vr 72), some (vi (set : Int)), some (vl (w64 (A + (ofr S.2 set w - sm (ofT S.2 set w) o)))), none, some (vi (w + 1)), none] [] S) := by
  obtain ⟨hn, hn9⟩ := hW.n
  intro m
  induction m with
  | zero =>
    intro o A ho
    have e : o = nOf S.2 := by omega
    have e2 : A + (ofr S.2 set w - sm (ofT S.2 set w) o) = A := by
      rw [e]
      unfold ofr
      omega
    rw [q_286_69, hn, if_neg (by first | decide | omega), e2, w32e (by first | decide | omega) (by first | decide | omega)]
    simp only [lc_lt]
  | succ m ih =>
    intro o A ho
    have e1 : (o : Int) + 1 = ((o + 1 : Nat) : Int) := by omega
    have hO := hW.2.2.2.2.2 o (by first | decide | omega)
    rw [q_286_69, hn, if_pos (by first | decide | omega), of_bit hs (by first | decide | omega), w32e (x := (o : Int) + 1) (by first | decide | omega) (by first | decide | omega), e1, Int.toNat_natCast]
    have hnext : ∀ B : Int, w64 B = w64 (A + ofT S.2 set w o) → LQ (WK L xs) (ev (WK L xs) (d + 1)) 286 69 [some (vr 72), some (vi (set : Int)), some (vl (w64 B)), none, some (vi w), some (vi ((o + 1 : Nat) : Int))] [] S = (if w64 (A + (ofr S.2 set w - sm (ofT S.2 set w) o)) < 0 then some (w, S) else LQ (WK L xs) (ev (WK L xs) (d + 1)) 286 13 [some (vr 72), some (vi (set : Int)), some (vl (w64 (A + (ofr S.2 set w - sm (ofT S.2 set w) o)))), none, some (vi (w + 1)), none] [] S) := by
      intro B hB
      rw [hB, ih (o + 1) (A + ofT S.2 set w o) (by first | decide | omega), sm_su]
      rw [show A + ofT S.2 set w o + (ofr S.2 set w - (sm (ofT S.2 set w) o + ofT S.2 set w o)) = A + (ofr S.2 set w - sm (ofT S.2 set w) o) by omega]
    cases hb : set.testBit o with
    | false =>
      rw [if_pos (by simp)]
      refine hnext A ?_
      unfold ofT
      rw [hb, if_neg (by simp), Int.add_zero]
    | true =>
      rw [if_neg (by simp), if_pos (by first | decide | omega), m_wk hT, bR]
      have e3 : S.2 72 2 % 360 / 7 = wN S.2 := rfl
      rw [e3]
      by_cases h1 : wN S.2 < S.2 136 o
      · have hv : ofT S.2 set w o = (if S.2 136 o = w then S.2 135 o else 0) - (if S.2 136 o + S.2 137 o = w then S.2 135 o + S.2 138 o else 0) := by
          unfold ofT
          rw [if_pos ⟨hb, h1⟩]
        have h127 : ∀ B : Int, w64 B = w64 (A + (if S.2 136 o = w then S.2 135 o else 0)) → LQ (WK L xs) (ev (WK L xs) (d + 1)) 286 127 [some (vr 72), some (vi (set : Int)), some (vl (w64 B)), none, some (vi w), some (vi (o : Int))] [] S = (if w64 (A + (ofr S.2 set w - sm (ofT S.2 set w) o)) < 0 then some (w, S) else LQ (WK L xs) (ev (WK L xs) (d + 1)) 286 13 [some (vr 72), some (vi (set : Int)), some (vl (w64 (A + (ofr S.2 set w - sm (ofT S.2 set w) o)))), none, some (vi (w + 1)), none] [] S) := by
          intro B hB
          rw [q_286_127, if_pos (by first | decide | omega), if_pos (by first | decide | omega), Int.toNat_natCast, w32e (x := S.2 136 o + S.2 137 o) (by first | decide | omega) (by first | decide | omega), w32e (x := (o : Int) + 1) (by first | decide | omega) (by first | decide | omega), e1]
          by_cases h3 : S.2 136 o + S.2 137 o = w
          · rw [if_pos h3, if_pos (by first | decide | omega), if_pos (by first | decide | omega), w64e (x := S.2 135 o + S.2 138 o) (by first | decide | omega) (by first | decide | omega), w64_sl]
            refine hnext _ ?_
            rw [hv, if_pos h3]
            have : w64 (B - (S.2 135 o + S.2 138 o)) = w64 (w64 B - (S.2 135 o + S.2 138 o)) := (w64_sl _ _).symm
            rw [this, hB, w64_sl]
            congr 1
            omega
          · rw [if_neg h3]
            refine hnext _ ?_
            rw [hv, if_neg h3, hB]
            congr 1
            omega
        rw [if_pos h1, if_pos (by first | decide | omega)]
        by_cases h2 : S.2 136 o = w
        · rw [if_pos h2, if_pos (by first | decide | omega), w64_al]
          refine h127 _ ?_
          rw [if_pos h2]
        · rw [if_neg h2]
          refine h127 _ ?_
          rw [if_neg h2, Int.add_zero]
      · rw [if_neg h1]
        refine hnext A ?_
        unfold ofT
        rw [if_neg (fun z => h1 z.2), Int.add_zero]
theorem m_shw (hT : GT S.2) (hW : GW S.2) {set : Nat} (hs : set < 512) : ∀ (m : Nat) (w a : Int), w + m = 52 → 0 ≤ w → LQ (WK L xs) (ev (WK L xs) (d + 2)) 286 13 [some (vr 72), some (vi (set : Int)), some (vl a), none, some (vi w), none] [] S = some (shF (fun w => inc S.2 w + ofr S.2 set w) m w a, S) := by
  intro m
  induction m with
  | zero =>
    intro w a hw h0
    rw [q_286_13, if_neg (by first | decide | omega)]
    rfl
  | succ m ih =>
    intro w a hw h0
    rw [q_286_13, if_pos (by first | decide | omega)]
    have hk := m_shk (L := L) (xs := xs) (d := d) hT hW (set := (set : Int)) (w := w) (by first | decide | omega) 6 0 a (by first | decide | omega)
    have e0 : ((0 : Nat) : Int) = 0 := rfl
    rw [e0] at hk
    rw [hk]
    have ho := m_sho (L := L) (xs := xs) (d := d + 1) hT hW (set := set) (w := w) hs (by first | decide | omega) (nOf S.2) 0 (a + (sm (fun k => ft S.2 k w 1) 6 - sm (fun k => ft S.2 k w 1) 0) - S.2 134 (52 * yN S.2 + w).toNat) (by first | decide | omega)
    rw [e0] at ho
    rw [ho]
    have e1 : a + (sm (fun k => ft S.2 k w 1) 6 - sm (fun k => ft S.2 k w 1) 0) - S.2 134 (52 * yN S.2 + w).toNat + (ofr S.2 set w - sm (ofT S.2 set w) 0) = a + (inc S.2 w + ofr S.2 set w) := by
      unfold inc
      simp only [sm]
      omega
    rw [e1]
    show _ = some ((if w64 (a + (inc S.2 w + ofr S.2 set w)) < 0 then w else _), S)
    by_cases h1 : w64 (a + (inc S.2 w + ofr S.2 set w)) < 0
    · rw [if_pos h1, if_pos h1]
    · rw [if_neg h1, if_neg h1]
      exact ih (w + 1) _ (by first | decide | omega) (by first | decide | omega)
theorem m_shortBy (hT : GT S.2) (hW : GW S.2) {set : Nat} (hs : set < 512) : ev (WK L xs) (d + 3) 286 [vr 72, vi (set : Int)] S = some (sht S.2 set, S) := by
  have hw := (wN_bd hT).1
  rw [q_286, m_wk hT, bR]
  have e3 : S.2 72 2 % 360 / 7 = wN S.2 := rfl
  rw [e3, w32e (by first | decide | omega) (by first | decide | omega)]
  exact m_shw hT hW hs _ _ _ (by first | decide | omega) (by first | decide | omega)
theorem m_costOf (hW : GW S.2) {set : Nat} (hs : set < 512) : ev (WK L xs) (d + 1) 289 [vr 72, vi (set : Int)] S = some (cst S.2 set, S) := by
  obtain ⟨hn, hn9⟩ := hW.n
  have key : ∀ (m o : Nat), o + m = nOf S.2 → LQ (WK L xs) (ev (WK L xs) d) 289 5 [some (vr 72), some (vi (set : Int)), some (vl (sm (fun o => if set.testBit o then S.2 138 o else 0) o)), none, some (vi (o : Int))] [] S = some (cst S.2 set, S) := by
    intro m
    induction m with
    | zero =>
      intro o ho
      have e : o = nOf S.2 := by omega
      rw [q_289_5, hn, if_neg (by first | decide | omega), e]
      rfl
    | succ m ih =>
      intro o ho
      have hO := hW.2.2.2.2.2 o (by first | decide | omega)
      have hv := sm_bd (f := fun o => if set.testBit o then S.2 138 o else 0) (M := 1000000000) (n := o + 1) (fun j hj => by
        have := hW.2.2.2.2.2 j (by first | decide | omega)
        split <;> omega)
      have hst := sm_su (fun o => if set.testBit o then S.2 138 o else 0) o
      have e1 : (o : Int) + 1 = ((o + 1 : Nat) : Int) := by omega
      rw [q_289_5, hn, if_pos (by first | decide | omega), of_bit hs (by first | decide | omega), w32e (by first | decide | omega) (by first | decide | omega), e1, Int.toNat_natCast]
      cases hb : set.testBit o with
      | true =>
        rw [hb, if_pos rfl] at hst
        rw [if_pos (by simp), if_pos (by first | decide | omega), ← hst, w64e (by first | decide | omega) (by first | decide | omega)]
        exact ih (o + 1) (by first | decide | omega)
      | false =>
        rw [hb, if_neg (by decide)] at hst
        rw [if_neg (by simp), ← hst, w64e (by first | decide | omega) (by first | decide | omega)]
        exact ih (o + 1) (by first | decide | omega)
  rw [q_289]
  exact key (nOf S.2) 0 (by first | decide | omega)
end
end
section
-- 32.planx
/-! the chest by weeks, as the class reckons it -/
noncomputable def D61 (S S' : AH) : Prop := S'.1 = S.1 ∧ ∀ a, a ≠ 61 → a ≠ 62 → a ≠ 150 → S'.2 a = S.2 a
theorem D61.rf {S : AH} : D61 S S := ⟨rfl, fun _ _ _ _ => rfl⟩
theorem D61.tr {S T U : AH} (h : D61 S T) (k : D61 T U) : D61 S U := ⟨k.1.trans h.1, fun a q1 q2 q3 => (k.2 a q1 q2 q3).trans (h.2 a q1 q2 q3)⟩
theorem D61.wr {S : AH} {a k : Nat} {v : Int} (h : a = 61 ∨ a = 62 ∨ a = 150) : D61 S (wr S a k v) := ⟨rfl, fun b q1 q2 q3 => wr_c (by first | decide | omega)⟩
theorem D61.gt {S S' : AH} (h : D61 S S') (H : GT S.2) : GT S'.2 := H.fr (by rw [h.2 15 (by decide) (by decide) (by decide)]) (by rw [h.2 72 (by decide) (by decide) (by decide)])
theorem D61.gw {S S' : AH} (h : D61 S S') (H : GW S.2) : GW S'.2 := H.fr (by rw [h.2 72 (by decide) (by decide) (by decide)]) (by rw [h.2 72 (by decide) (by decide) (by decide)]) (by rw [h.2 54 (by decide) (by decide) (by decide)]) (by rw [h.2 54 (by decide) (by decide) (by decide)]) (fun a ha => h.2 a (by first | decide | omega) (by first | decide | omega) (by first | decide | omega))
theorem D61.inv {S S' : AH} (h : D61 S S') (H : Inv S) : Inv S' := by
  refine H.scr ⟨by rw [h.1]; exact Nat.le_refl _, fun a h1 h2 => ⟨by rw [h.1], h.2 a (by first | decide | omega) (by first | decide | omega) (by first | decide | omega)⟩⟩ (fun a k _ hs => ?_)
  rw [h.2 a (fun z => hs (by unfold scr; omega)) (fun z => hs (by unfold scr; omega)) (fun z => hs (by unfold scr; omega))]
theorem D61.spec {S S' : AH} (h : D61 S S') : nOf S'.2 = nOf S.2 ∧ wN S'.2 = wN S.2 ∧ yN S'.2 = yN S.2 ∧ ft S'.2 = ft S.2 ∧ inc S'.2 = inc S.2 ∧ ofT S'.2 = ofT S.2 ∧ ofr S'.2 = ofr S.2 ∧ sht S'.2 = sht S.2 ∧ cst S'.2 = cst S.2 := by
  have c72 := h.2 72 (by decide) (by decide) (by decide)
  have e1 : nOf S'.2 = nOf S.2 := by unfold nOf; rw [c72]
  have e2 : wN S'.2 = wN S.2 := by unfold wN; rw [c72]
  have e3 : yN S'.2 = yN S.2 := by unfold yN; rw [c72]
  have e4 : cme S'.2 = cme S.2 := by funext k y w; unfold cme; rw [h.2 133 (by decide) (by decide) (by decide)]
  have e5 : ft S'.2 = ft S.2 := by funext k w x; unfold ft; rw [e2, e3, e4]
  have e6 : inc S'.2 = inc S.2 := by funext w; unfold inc; rw [e5, e3, h.2 134 (by decide) (by decide) (by decide)]
  have e7 : ofT S'.2 = ofT S.2 := by
    funext s w o
    unfold ofT
    rw [e2, h.2 135 (by decide) (by decide) (by decide), h.2 136 (by decide) (by decide) (by decide), h.2 137 (by decide) (by decide) (by decide), h.2 138 (by decide) (by decide) (by decide)]
  have e8 : ofr S'.2 = ofr S.2 := by funext s w; unfold ofr; rw [e7, e1]
  refine ⟨e1, e2, e3, e5, e6, e7, e8, ?_, ?_⟩
  · funext s
    unfold sht
    rw [e6, e8, e2, c72]
  · funext s
    unfold cst
    rw [e1, h.2 138 (by decide) (by decide) (by decide)]
/-- the sums of a week's spans: billions, pence -/
noncomputable def rcB (g : Nat → Int) : Nat → Nat → Int → Int
  | 0, _, x => x
  | m + 1, k, x => rcB g m (k + 1) (w64 (x + ldiv (g k) 1000000000))
noncomputable def rcP (g : Nat → Int) : Nat → Nat → Int → Int
  | 0, _, x => x
  | m + 1, k, x => rcP g m (k + 1) (w64 (x + Int.tmod (g k) 1000000000))
section
variable {L : Nat} {xs : Nat → Int} {d : Nat} {S : AH}
theorem x_dueIn (hW : GW S.2) {y w : Int} (hy : 0 ≤ y ∧ y < 10) (hw : 0 ≤ w ∧ w < 52) : ev (WK L xs) (d + 2) 185 [vr 54, vi y, vi w] S = some (S.2 134 (52 * y + w).toNat, S) := by
  rw [q_185]
  simp only [x_isYear, x_isWeek, bR, bi_0]
  rw [if_neg (fun z => z hy), if_neg (fun z => z hw), w32e (x := y * 52) (by first | decide | omega) (by first | decide | omega), w32e (by first | decide | omega) (by first | decide | omega), if_pos (by first | decide | omega), show y * 52 + w = 52 * y + w by omega, hW.2.2.1 _ (by first | decide | omega)]
theorem x_rwk (hT : GT S.2) (hW : GW S.2) {w : Int} (hw : 0 ≤ w ∧ w < 52) : ∀ (m k : Nat) (x z : Int), k + m = 6 → LQ (WK L xs) (ev (WK L xs) (d + 3)) 184 24 [some (vr 54), none, none, some (vi (S.2 72 2)), some (vl x), none, some (vl z), none, some (vi w), some (vi (k : Int)), none, none] [] S = LQ (WK L xs) (ev (WK L xs) (d + 3)) 184 14 [some (vr 54), none, none, some (vi (S.2 72 2)), some (vl (rcB (fun k => ft S.2 k w 1) m k x)), none, some (vl (w64 (rcP (fun k => ft S.2 k w 1) m k z - S.2 134 (52 * yN S.2 + w).toNat))), none, some (vi (w + 1)), none, none, none] [] (wr (wr S 61 w.toNat (rcB (fun k => ft S.2 k w 1) m k x)) 150 w.toNat (w64 (rcP (fun k => ft S.2 k w 1) m k z - S.2 134 (52 * yN S.2 + w).toNat))) := by
  have hy := (wN_bd hT).2
  have ht := hT
  unfold GT at ht
  intro m
  induction m with
  | zero =>
    intro k x z hk
    have e : k = 6 := by omega
    subst e
    have e1 : S.2 72 2 / 360 = yN S.2 := rfl
    rw [q_184_24, if_neg (by first | decide | omega), x_yr ht.2.1 ht.2.2, bR, e1, x_dueIn hW hy hw, bR, if_pos (by first | decide | omega), if_pos (by first | decide | omega), w32e (by first | decide | omega) (by first | decide | omega)]
    rfl
  | succ m ih =>
    intro k x z hk
    have e1 : (k : Int) + 1 = ((k + 1 : Nat) : Int) := by omega
    rw [q_184_24, if_pos (by first | decide | omega), x_foreseen hT hW (by first | decide | omega) hw (by first | decide | omega), bR, w32e (x := (k : Int) + 1) (by first | decide | omega) (by first | decide | omega), e1, ih (k + 1) _ _ (by first | decide | omega)]
    rfl
theorem x_rww {S0 : AH} : ∀ (m : Nat) (w a b : Int) (S : AH), D61 S0 S → GT S.2 → GW S.2 → w + m = 52 → 0 ≤ w → ∃ S', LQ (WK L xs) (ev (WK L xs) (d + 3)) 184 14 [some (vr 54), none, none, some (vi (S.2 72 2)), some (vl a), none, some (vl b), none, some (vi w), none, none, none] [] S = some (0, S') ∧ D61 S0 S' := by
  intro m
  induction m with
  | zero =>
    intro w a b S hD hT hW hw h0
    rw [q_184_14, if_neg (by first | decide | omega)]
    exact ⟨S, rfl, hD⟩
  | succ m ih =>
    intro w a b S hD hT hW hw h0
    have e0 : ((0 : Nat) : Int) = 0 := rfl
    have hk := x_rwk (L := L) (xs := xs) (d := d) hT hW (w := w) (by first | decide | omega) 6 0 a b (by first | decide | omega)
    rw [e0] at hk
    rw [q_184_14, if_pos (by first | decide | omega), hk]
    generalize rcB (fun k => ft S.2 k w 1) 6 0 a = y4
    generalize w64 (rcP (fun k => ft S.2 k w 1) 6 0 b - S.2 134 (52 * yN S.2 + w).toNat) = y6
    have hD1 : D61 S (wr (wr S 61 w.toNat y4) 150 w.toNat y6) := (D61.wr (Or.inl rfl)).tr (D61.wr (Or.inr (Or.inr rfl)))
    obtain ⟨S', r1, r2⟩ := ih (w + 1) y4 y6 _ (hD.tr hD1) (hD1.gt hT) (hD1.gw hW) (by first | decide | omega) (by first | decide | omega)
    have e72 : (wr (wr S 61 w.toNat y4) 150 w.toNat y6).2 72 2 = S.2 72 2 := by rw [wr_c (by decide), wr_c (by decide)]
    rw [e72] at r1
    exact ⟨S', r1, r2⟩
theorem x_reckonWorst (hT : GT S.2) (hW : GW S.2) (a : Int) : ∃ S', ev (WK L xs) (d + 4) 184 [vr 54, vl a, vi (S.2 72 2)] S = some (0, S') ∧ D61 S S' := by
  have ht := hT
  unfold GT at ht
  have hw := (wN_bd hT).1
  obtain ⟨S', r1, r2⟩ := x_rww (L := L) (xs := xs) (d := d) (S0 := S) (51 - wN S.2).toNat (wN S.2 + 1) 0 a S D61.rf hT hW (by first | decide | omega) (by first | decide | omega)
  refine ⟨S', ?_, r2⟩
  rw [q_184, x_wk ht.2.1 ht.2.2, bR]
  have e3 : S.2 72 2 % 360 / 7 = wN S.2 := rfl
  rw [e3, w32e (by first | decide | omega) (by first | decide | omega)]
  exact r1
theorem j_fill : ∃ S', ev (WK L xs) (d + 1) 334 [vr 62, vl 0] S = some (0, S') ∧ D61 S S' ∧ S'.2 61 = S.2 61 ∧ ∀ k, k < 52 → S'.2 62 k = 0 := by
  have sh : ∀ T : AH, shp (WK L xs) T 62 = (3, 52) := fun T => rfl
  have key : ∀ (m k : Nat) (T : AH), k + m = 52 → D61 S T → T.2 61 = S.2 61 → (∀ j, j < k → T.2 62 j = 0) → ∃ S', LQ (WK L xs) (ev (WK L xs) d) 334 6 [some (vr 62), some (vl 0), none, some (vi (k : Int)), some (vi 52)] [] T = some (0, S') ∧ D61 S S' ∧ S'.2 61 = S.2 61 ∧ ∀ k, k < 52 → S'.2 62 k = 0 := by
    intro m
    induction m with
    | zero =>
      intro k T hk hD h61 hz
      rw [q_334_6, if_neg (by first | decide | omega)]
      exact ⟨T, rfl, hD, h61, fun j hj => hz j (by first | decide | omega)⟩
    | succ m ih =>
      intro k T hk hD h61 hz
      have e1 : (k : Int) + 1 = ((k + 1 : Nat) : Int) := by omega
      rw [q_334_6, if_pos (by first | decide | omega), sh, show (Nat.beq (3, 52).1 3 && wokF (WK L xs) 62) = true from rfl, gdT, if_pos (by simp; omega), w32e (by first | decide | omega) (by first | decide | omega), e1, Int.toNat_natCast]
      refine ih (k + 1) _ (by first | decide | omega) (hD.tr (D61.wr (Or.inr (Or.inl rfl)))) (by rw [wr_c (by decide)]; exact h61) (fun j hj => ?_)
      rw [wr_f]
      by_cases e : j = k
      · rw [if_pos e]
      · rw [if_neg e]
        exact hz j (by first | decide | omega)
  rw [q_334, sh, show Nat.ble (3, 52).1 6 = true from rfl, gdT]
  exact key 52 0 S (by first | decide | omega) D61.rf rfl (fun j hj => by omega)
theorem x_flow {S0 : AH} {set : Nat} (hs : set < 512) : ∀ (m o : Nat) (S : AH), D61 S0 S → GT S.2 → GW S.2 → o + m = nOf S0.2 → (∀ k : Nat, k < 52 → S.2 62 k = w64 (sm (ofT S0.2 set k) o)) → ∃ S', LQ (WK L xs) (ev (WK L xs) (d + 1)) 187 10 [some (vr 54), some (vi (set : Int)), some (vi (wN S0.2)), some (vi (o : Int)), none, none] [] S = some (0, S') ∧ D61 S0 S' ∧ S'.2 61 = S.2 61 ∧ ∀ k : Nat, k < 52 → S'.2 62 k = w64 (ofr S0.2 set k) := by
  intro m
  induction m with
  | zero =>
    intro o S hD hT hW ho hf
    obtain ⟨z1, z2, z3, z4, z5, z6, z7, z8, z9⟩ := hD.spec
    obtain ⟨hn, hn9⟩ := hW.n
    rw [q_187_10, hW.2.2.2.2.1, hn, z1, if_neg (by first | decide | omega)]
    refine ⟨S, rfl, hD, rfl, fun k hk => ?_⟩
    have e : o = nOf S0.2 := by omega
    rw [hf k hk, e]
    rfl
  | succ m ih =>
    intro o S hD hT hW ho hf
    obtain ⟨z1, z2, z3, z4, z5, z6, z7, z8, z9⟩ := hD.spec
    obtain ⟨hn, hn9⟩ := hW.n
    rw [z1] at hn hn9
    have e1 : (o : Int) + 1 = ((o + 1 : Nat) : Int) := by omega
    obtain ⟨⟨v1, v2, v3, v4⟩, g1, g2, g3, g4⟩ := hW.2.2.2.2.2 o (by first | decide | omega)
    have c135 := congrFun (hD.2 135 (by decide) (by decide) (by decide)) o
    have c136 := congrFun (hD.2 136 (by decide) (by decide) (by decide)) o
    have c137 := congrFun (hD.2 137 (by decide) (by decide) (by decide)) o
    have c138 := congrFun (hD.2 138 (by decide) (by decide) (by decide)) o
    rw [q_187_10, hW.2.2.2.2.1, hn, if_pos (by first | decide | omega), if_pos (by first | decide | omega), of_bit hs (by first | decide | omega), w32e (x := (o : Int) + 1) (by first | decide | omega) (by first | decide | omega), e1, Int.toNat_natCast]
    have hskip : (∀ k : Nat, k < 52 → ofT S0.2 set k o = 0) → ∃ S', LQ (WK L xs) (ev (WK L xs) (d + 1)) 187 10 [some (vr 54), some (vi (set : Int)), some (vi (wN S0.2)), some (vi ((o + 1 : Nat) : Int)), none, none] [] S = some (0, S') ∧ D61 S0 S' ∧ S'.2 61 = S.2 61 ∧ ∀ k : Nat, k < 52 → S'.2 62 k = w64 (ofr S0.2 set k) := by
      intro hz
      refine ih (o + 1) S hD hT hW (by first | decide | omega) (fun k hk => ?_)
      rw [hf k hk, sm_su (ofT S0.2 set k) o, hz k hk, Int.add_zero]
    cases hb : set.testBit o with
    | false =>
      rw [if_pos (by simp)]
      refine hskip (fun k _ => ?_)
      unfold ofT
      rw [hb, if_neg (by simp)]
    | true =>
      rw [if_neg (by simp), v2]
      by_cases h1 : wN S0.2 < S.2 136 o
      · rw [if_pos h1, x_isWeek, bR]
        simp only [bi_0]
        rw [if_neg (by first | decide | omega), if_pos (by first | decide | omega), if_pos (by first | decide | omega), if_pos (by first | decide | omega), if_pos (by first | decide | omega), v1, v3]
        obtain ⟨p, hp⟩ := Int.eq_ofNat_of_zero_le g2.1
        rw [hp, Int.toNat_natCast]
        have hfp := hf p (by first | decide | omega)
        rw [hfp, w64_al, w32e (x := (p : Int) + S.2 137 o) (by first | decide | omega) (by first | decide | omega)]
        have hv : ∀ k : Nat, ofT S0.2 set k o = (if p = k then S.2 135 o else 0) - (if (p : Int) + S.2 137 o = k then S.2 135 o + S.2 138 o else 0) := by
          intro k
          unfold ofT
          rw [← c135, ← c136, ← c137, ← c138, if_pos ⟨hb, h1⟩, hp]
          congr 1
          by_cases q : p = k
          · rw [if_pos (by first | decide | omega), if_pos q]
          · rw [if_neg (by first | decide | omega), if_neg q]
        rw [x_isWeek, bR]
        simp only [bi_0]
        by_cases h2 : (p : Int) + S.2 137 o < 52
        · obtain ⟨b, hbk⟩ := Int.eq_ofNat_of_zero_le (show 0 ≤ (p : Int) + S.2 137 o by omega)
          rw [if_neg (by first | decide | omega), if_pos (by first | decide | omega), if_pos (by first | decide | omega), if_pos (by first | decide | omega), if_pos (by first | decide | omega), wr_c (show (57 : Nat) ≠ 62 by decide), wr_c (show (60 : Nat) ≠ 62 by decide), v1, v4, hbk, Int.toNat_natCast, w64e (x := S.2 135 o + S.2 138 o) (by first | decide | omega) (by first | decide | omega), wr_f, if_neg (show ¬ b = p by omega), hf b (by first | decide | omega), w64_sl]
          have hD2 : D61 S (wr (wr S 62 p (w64 (sm (ofT S0.2 set p) o + S.2 135 o))) 62 b (w64 (sm (ofT S0.2 set b) o - (S.2 135 o + S.2 138 o)))) := (D61.wr (Or.inr (Or.inl rfl))).tr (D61.wr (Or.inr (Or.inl rfl)))
          obtain ⟨S', r1, r2, r3, r4⟩ := ih (o + 1) _ (hD.tr hD2) (hD2.gt hT) (hD2.gw hW) (by first | decide | omega) (fun k hk => by
            rw [wr_f, sm_su (ofT S0.2 set k) o, hv k]
            by_cases q1 : k = b
            · subst q1
              rw [if_pos rfl, if_neg (show ¬ p = k by omega), if_pos hbk]
              congr 1
              omega
            · rw [if_neg q1, wr_f, if_neg (show ¬ (p : Int) + S.2 137 o = k by omega)]
              by_cases q2 : k = p
              · subst q2
                rw [if_pos rfl, if_pos rfl]
                congr 1
                omega
              · rw [if_neg q2, if_neg (show ¬ p = k by omega), hf k hk]
                congr 1
                omega)
          refine ⟨S', r1, r2, ?_, r4⟩
          rw [r3, wr_c (by decide), wr_c (by decide)]
        · rw [if_pos (by first | decide | omega)]
          have hD2 : D61 S (wr S 62 p (w64 (sm (ofT S0.2 set p) o + S.2 135 o))) := D61.wr (Or.inr (Or.inl rfl))
          obtain ⟨S', r1, r2, r3, r4⟩ := ih (o + 1) _ (hD.tr hD2) (hD2.gt hT) (hD2.gw hW) (by first | decide | omega) (fun k hk => by
            rw [wr_f, sm_su (ofT S0.2 set k) o, hv k, if_neg (show ¬ (p : Int) + S.2 137 o = k by omega)]
            by_cases q2 : k = p
            · subst q2
              rw [if_pos rfl, if_pos rfl]
              congr 1
              omega
            · rw [if_neg q2, if_neg (show ¬ p = k by omega), hf k hk]
              congr 1
              omega)
          refine ⟨S', r1, r2, ?_, r4⟩
          rw [r3, wr_c (by decide)]
      · rw [if_neg h1]
        refine hskip (fun k _ => ?_)
        unfold ofT
        rw [← c136, if_neg (fun z => h1 z.2)]
end
end
section
-- 33.opplan
/-! shortWeek, judge, plan -/
theorem shF_bd {f : Int → Int} : ∀ (m : Nat) (w a : Int), 0 ≤ w → -1 ≤ shF f m w a ∧ shF f m w a < w + m := by
  intro m
  induction m with
  | zero =>
    intro w a hw
    show -1 ≤ (-1 : Int) ∧ (-1 : Int) < w + (0 : Nat)
    omega
  | succ m ih =>
    intro w a hw
    show -1 ≤ (if w64 (a + f w) < 0 then w else shF f m (w + 1) (w64 (a + f w))) ∧ (if w64 (a + f w) < 0 then w else shF f m (w + 1) (w64 (a + f w))) < w + ((m + 1 : Nat) : Int)
    have := ih (w + 1) (w64 (a + f w)) (by first | decide | omega)
    split
    · omega
    · omega
theorem sht_bd {h : Nat → Nat → Int} (hT : GT h) (set : Nat) : -1 ≤ sht h set ∧ sht h set < 52 := by
  have hw := (wN_bd hT).1
  have := shF_bd (f := fun w => inc h w + ofr h set w) (51 - wN h).toNat (wN h + 1) (h 72 3) (by first | decide | omega)
  unfold sht
  omega
/-- the cheapest set that keeps the chest -/
abbrev bttr (h : Nat → Nat → Int) (s : Nat) (best : Int) : Prop := best = -1 ∨ cst h s < cst h best.toNat ∨ (cst h s = cst h best.toNat ∧ pcn s < pcn best.toNat)
noncomputable def plL (h : Nat → Nat → Int) : Nat → Nat → Int → Int
  | 0, _, best => best
  | m + 1, s, best => plL h m (s + 1) (if bttr h s best ∧ sht h s = -1 then (s : Int) else best)
section
variable {L : Nat} {xs : Nat → Int} {d : Nat} {S S0 : AH}
theorem ex_ite {c : Prop} [Decidable c] {X : Rs} {w : Int} {S : AH} (h : ∃ r, X = some (r, S)) : ∃ r, (if c then some (w, S) else X) = some (r, S) := by
  by_cases q : c
  · exact ⟨w, if_pos q⟩
  · obtain ⟨r, hr⟩ := h
    exact ⟨r, (if_neg q).trans hr⟩
theorem j_fdiv (x : Int) : ∃ r, ev (WK L xs) (d + 1) 337 [vl x, vl 1000000000] S = some (r, S) := by
  rw [q_337, if_neg (by decide)]
  exact (by
    by_cases q : lcmp (lxor x 1000000000) 0 < 0
    · rw [if_pos q]
      exact ex_ite ⟨_, rfl⟩
    · rw [if_neg q]
      exact ⟨_, rfl⟩)
theorem x_fsl : ∀ (m : Nat) (w x : Int), w + m = 52 → 0 ≤ w → ∃ r, LQ (WK L xs) (ev (WK L xs) (d + 1)) 186 19 [some (vr 54), none, none, some (vl x), none, some (vi w)] [] S = some (r, S) := by
  intro m
  induction m with
  | zero =>
    intro w x hw h0
    rw [q_186_19, if_neg (by first | decide | omega)]
    exact ⟨_, rfl⟩
  | succ m ih =>
    intro w x hw h0
    obtain ⟨q, hq⟩ := j_fdiv (L := L) (xs := xs) (d := d) (S := S) (w64 (S.2 150 w.toNat + w64 (x + S.2 62 w.toNat)))
    rw [q_186_19, if_pos (by first | decide | omega), if_pos (by first | decide | omega), if_pos (by first | decide | omega), if_pos (by first | decide | omega), hq, bR, w32e (by first | decide | omega) (by first | decide | omega)]
    exact ex_ite (ih (w + 1) _ (by first | decide | omega) (by first | decide | omega))
theorem x_firstShort (hD : D61 S0 S) (hT : GT S0.2) (hW : GW S0.2) {set : Nat} (hs : set < 512) : ∃ r S', ev (WK L xs) (d + 3) 186 [vr 54, vi (set : Int), vi (S0.2 72 2)] S = some (r, S') ∧ D61 S0 S' := by
  have ht := hT
  unfold GT at ht
  have hwb := (wN_bd hT).1
  have e3 : S0.2 72 2 % 360 / 7 = wN S0.2 := rfl
  obtain ⟨T, f1, f2, f3, f4⟩ := j_fill (L := L) (xs := xs) (d := d) (S := S)
  have hDT := hD.tr f2
  obtain ⟨U, u1, u2, u3, u4⟩ := x_flow (L := L) (xs := xs) (d := d) (S0 := S0) (set := set) hs (nOf S0.2) 0 T hDT (hDT.gt hT) (hDT.gw hW) (by first | decide | omega) (fun k hk => by rw [f4 k hk]; rfl)
  have e0 : ((0 : Nat) : Int) = 0 := rfl
  rw [e0] at u1
  obtain ⟨r, hr⟩ := x_fsl (L := L) (xs := xs) (d := d + 1) (S := U) (51 - wN S0.2).toNat (wN S0.2 + 1) 0 (by first | decide | omega) (by first | decide | omega)
  refine ⟨r, U, ?_, u2⟩
  rw [q_186, x_wk ht.2.1 ht.2.2, bR, e3, q_187, f1, bR, u1, bR, x_wk ht.2.1 ht.2.2, bR, e3, w32e (by first | decide | omega) (by first | decide | omega)]
  exact hr
theorem x_costOf (hW : GW S.2) {set : Nat} (hs : set < 512) : ev (WK L xs) (d + 1) 190 [vr 54, vi (set : Int)] S = some (cst S.2 set, S) := by
  obtain ⟨hn, hn9⟩ := hW.n
  have key : ∀ (m o : Nat), o + m = nOf S.2 → LQ (WK L xs) (ev (WK L xs) d) 190 5 [some (vr 54), some (vi (set : Int)), some (vl (sm (fun o => if set.testBit o then S.2 138 o else 0) o)), none, some (vi (o : Int))] [] S = some (cst S.2 set, S) := by
    intro m
    induction m with
    | zero =>
      intro o ho
      have e : o = nOf S.2 := by omega
      rw [q_190_5, hW.2.2.2.2.1, hn, if_neg (by first | decide | omega), e]
      rfl
    | succ m ih =>
      intro o ho
      have hO := hW.2.2.2.2.2 o (by first | decide | omega)
      have hv := sm_bd (f := fun o => if set.testBit o then S.2 138 o else 0) (M := 1000000000) (n := o + 1) (fun j hj => by
        have := hW.2.2.2.2.2 j (by first | decide | omega)
        split <;> omega)
      have hst := sm_su (fun o => if set.testBit o then S.2 138 o else 0) o
      have e1 : (o : Int) + 1 = ((o + 1 : Nat) : Int) := by omega
      rw [q_190_5, hW.2.2.2.2.1, hn, if_pos (by first | decide | omega), of_bit hs (by first | decide | omega), w32e (by first | decide | omega) (by first | decide | omega), e1, Int.toNat_natCast]
      cases hb : set.testBit o with
      | true =>
        rw [hb, if_pos rfl] at hst
        rw [if_neg (by simp), if_pos (by first | decide | omega), hO.1.2.2.2, ← hst, w64e (by first | decide | omega) (by first | decide | omega)]
        exact ih (o + 1) (by first | decide | omega)
      | false =>
        rw [hb, if_neg (by decide)] at hst
        rw [if_pos (by simp), ← hst, w64e (by first | decide | omega) (by first | decide | omega)]
        exact ih (o + 1) (by first | decide | omega)
  rw [q_190]
  exact key (nOf S.2) 0 (by first | decide | omega)
/-- both answer, and it goes on -/
noncomputable def OkU (L : Nat) (xs : Nat → Int) (mx mm : Nat) (as : List TV) (S : AH) : Prop := ∃ (r q : Int) (S1 S2 : AH), ev (WK L xs) 200 mx (vr 15 :: as) S = some (r, S1) ∧ ev (WK L xs) 200 mm (vr 72 :: as) S1 = some (q, S2) ∧ Inv S2 ∧ Gw S S2
theorem Ok.u {mx mm : Nat} {as : List TV} (h : Ok L xs mx mm as S) : OkU L xs mx mm as S := by
  obtain ⟨r, A, B, a1, a2, a3, a4⟩ := h
  exact ⟨r, r, A, B, a1, a2, a3, a4⟩
theorem o_shortWeek (H : Inv S) : OkU L xs 43 285 [] S := by
  have ht := H.gt
  unfold GT at ht
  have hc := H.gc.1
  obtain ⟨S1, a1, a2⟩ := x_reckonWorst (L := L) (xs := xs) (d := 195) H.gt H.gw (S.2 72 3)
  obtain ⟨r, S2, b1, b2⟩ := x_firstShort (L := L) (xs := xs) (d := 196) a2 H.gt H.gw (set := 0) (by first | decide | omega)
  refine ⟨r, sht S.2 0, S2, S2, ?_, ?_, b2.inv H, Gw.of b2.1⟩
  · rw [q_43, ht.1, hc, a1, bR, a2.2 15 (by decide) (by decide) (by decide), ht.1]
    exact (congrArg (bindR · _) b1).trans rfl
  · rw [q_285]
    have := m_shortBy (L := L) (xs := xs) (d := 196) (b2.gt H.gt) (b2.gw H.gw) (set := 0) (by first | decide | omega)
    rw [b2.spec.2.2.2.2.2.2.2.1] at this
    exact (congrArg (bindR · _) this).trans rfl
theorem set_lt {n : Nat} (h : n ≤ 9) : 2 ^ n ≤ 512 ∧ 1 ≤ 2 ^ n := ⟨Nat.le_trans (Nat.pow_le_pow_right (by decide) h) (by decide), Nat.one_le_two_pow⟩
theorem o_judge (H : Inv S) (p : Int) : OkU L xs 46 291 [vi p] S := by
  have ht := H.gt
  unfold GT at ht
  have hc := H.gc.1
  obtain ⟨hn, hn9⟩ := H.gw.n
  have h2 := set_lt hn9
  have en : S.2 54 7 = (nOf S.2 : Int) := H.gw.2.2.2.2.1.trans hn
  by_cases hp : 0 ≤ p ∧ p < ((2 ^ nOf S.2 : Nat) : Int)
  · obtain ⟨s, hs⟩ := Int.eq_ofNat_of_zero_le hp.1
    subst hs
    have hs5 : s < 512 := by omega
    obtain ⟨S1, a1, a2⟩ := x_reckonWorst (L := L) (xs := xs) (d := 195) H.gt H.gw (S.2 72 3)
    obtain ⟨r, S2, b1, b2⟩ := x_firstShort (L := L) (xs := xs) (d := 196) a2 H.gt H.gw (set := s) hs5
    have hb := sht_bd H.gt s
    refine ⟨if r = -1 then cst S.2 s else w64 (-2 - r), if sht S.2 s = -1 then cst S.2 s else -2 - sht S.2 s, S2, S2, ?_, ?_, b2.inv H, Gw.of b2.1⟩
    · rw [q_46, q_191, en, ishl_n _ (by first | decide | omega), if_neg (by first | decide | omega), if_pos hp.2, bR, if_neg (by decide), ht.1, hc, a1, bR, a2.2 15 (by decide) (by decide) (by decide), ht.1, b1, bR]
      by_cases h3 : r = -1
      · rw [if_pos h3, if_pos h3, x_costOf (b2.gw H.gw) hs5, bR, b2.spec.2.2.2.2.2.2.2.2]
      · rw [if_neg h3, if_neg h3]
    · have := m_shortBy (L := L) (xs := xs) (d := 196) (b2.gt H.gt) (b2.gw H.gw) (set := s) hs5
      rw [b2.spec.2.2.2.2.2.2.2.1] at this
      rw [q_291, q_195, b2.2 72 (by decide) (by decide) (by decide), hn, ishl_n _ (by first | decide | omega), w32e (by first | decide | omega) (by first | decide | omega)]
      simp only [lc_lt, lc_gt]
      rw [if_neg (by first | decide | omega), if_neg (by first | decide | omega), bR, if_neg (by decide), this, bR]
      by_cases h3 : sht S.2 s = -1
      · rw [if_pos h3, if_pos h3, m_costOf (b2.gw H.gw) hs5, bR, b2.spec.2.2.2.2.2.2.2.2]
      · rw [if_neg h3, if_neg h3, w32e (by first | decide | omega) (by first | decide | omega)]
  · refine Ok.u (Ok.same (r := -1) H ?_ ?_)
    · rw [q_46, q_191, en, ishl_n _ (by first | decide | omega)]
      by_cases h1 : p < 0
      · rw [if_pos h1, bR, if_pos rfl]
      · rw [if_neg h1, if_neg (by first | decide | omega), bR, if_pos rfl]
    · rw [q_291, q_195, hn, ishl_n _ (by first | decide | omega), w32e (by first | decide | omega) (by first | decide | omega)]
      simp only [lc_lt, lc_gt]
      by_cases h1 : p < 0
      · rw [if_pos h1, bR, if_pos rfl]
      · rw [if_neg h1, if_pos (by first | decide | omega), bR, if_pos rfl]
theorem m_pll (hT : GT S.2) (hW : GW S.2) : ∀ (m s : Nat) (best : Int), s + m = 2 ^ nOf S.2 → (best = -1 ∨ (0 ≤ best ∧ best < s)) → LQ (WK L xs) (ev (WK L xs) (d + 3)) 288 4 [some (vr 72), some (vi best), some (vi (s : Int))] [] S = some (plL S.2 m s best, S) := by
  obtain ⟨hn, hn9⟩ := hW.n
  have h2 := set_lt hn9
  intro m
  induction m with
  | zero =>
    intro s best hs hb
    rw [q_288_4, hn, ishl_n _ (by first | decide | omega), if_neg (by first | decide | omega)]
    rfl
  | succ m ih =>
    intro s best hs hb
    have hs5 : s < 512 := by omega
    have e1 : (s : Int) + 1 = ((s + 1 : Nat) : Int) := by omega
    have hy := ih (s + 1) s (by first | decide | omega) (by first | decide | omega)
    have hno := ih (s + 1) best (by first | decide | omega) (by first | decide | omega)
    rw [q_288_4, hn, ishl_n _ (by first | decide | omega), if_pos (by first | decide | omega), w32e (x := (s : Int) + 1) (by first | decide | omega) (by first | decide | omega), e1]
    have hT2 : ∀ q : bttr S.2 s best, bindR (ev (WK L xs) (d + 3) 286 [vr 72, vi (s : Int)] S) (fun r1 S2 => (if r1 = -1 then (LQ (WK L xs) (ev (WK L xs) (d + 3)) 288 4 [some (vr 72), some (vi (s : Int)), some (vi ((s + 1 : Nat) : Int))] [] S2) else (LQ (WK L xs) (ev (WK L xs) (d + 3)) 288 4 [some (vr 72), some (vi best), some (vi ((s + 1 : Nat) : Int))] [] S2))) = some (plL S.2 (m + 1) s best, S) := by
      intro q
      rw [m_shortBy hT hW hs5, bR]
      simp only [plL]
      by_cases h3 : sht S.2 s = -1
      · rw [if_pos h3, if_pos ⟨q, h3⟩, hy]
      · rw [if_neg h3, if_neg (fun z => h3 z.2), hno]
    have hF2 : ¬ bttr S.2 s best → LQ (WK L xs) (ev (WK L xs) (d + 3)) 288 4 [some (vr 72), some (vi best), some (vi ((s + 1 : Nat) : Int))] [] S = some (plL S.2 (m + 1) s best, S) := by
      intro q
      simp only [plL]
      rw [if_neg (fun z => q z.1), hno]
    by_cases hb1 : best = -1
    · rw [if_pos hb1]
      exact hT2 (Or.inl hb1)
    · rw [if_neg hb1]
      obtain ⟨b, hbb⟩ := Int.eq_ofNat_of_zero_le (show 0 ≤ best by omega)
      subst hbb
      have hb5 : b < 512 := by omega
      simp only [m_costOf (d := d + 2) hW hs5, m_costOf (d := d + 2) hW hb5, bR, lc_gt, lc_eq, m_sizeOf (d := d + 2) s (by first | decide | omega), m_sizeOf (d := d + 2) b (by first | decide | omega)]
      by_cases h1 : cst S.2 b < cst S.2 s
      · rw [if_pos h1]
        refine hF2 ?_
        unfold bttr
        rw [Int.toNat_natCast]
        omega
      · rw [if_neg h1]
        by_cases h3 : cst S.2 s = cst S.2 b
        · rw [if_pos h3]
          by_cases h4 : (pcn s : Int) < (pcn b : Int)
          · rw [if_pos h4]
            refine hT2 ?_
            unfold bttr
            rw [Int.toNat_natCast]
            omega
          · rw [if_neg h4]
            refine hF2 ?_
            unfold bttr
            rw [Int.toNat_natCast]
            omega
        · rw [if_neg h3]
          refine hT2 ?_
          unfold bttr
          rw [Int.toNat_natCast]
          omega
theorem x_pll (hT : GT S0.2) (hW : GW S0.2) : ∀ (m s : Nat) (best c : Int) (S : AH), s + m = 2 ^ nOf S0.2 → (best = -1 ∨ (0 ≤ best ∧ best < s)) → D61 S0 S → ∃ r S', LQ (WK L xs) (ev (WK L xs) (d + 3)) 189 7 [some (vr 54), some (vi (S0.2 72 2)), some (vi best), some (vl c), none, some (vi (s : Int)), none, none, none] [] S = some (r, S') ∧ D61 S0 S' := by
  obtain ⟨hn, hn9⟩ := hW.n
  have h2 := set_lt hn9
  intro m
  induction m with
  | zero =>
    intro s best c S hs hb hD
    have en : S.2 54 7 = (nOf S0.2 : Int) := by rw [hD.2 54 (by decide) (by decide) (by decide), hW.2.2.2.2.1, hn]
    rw [q_189_7, en, ishl_n _ (by first | decide | omega), if_neg (by first | decide | omega)]
    exact ⟨best, S, rfl, hD⟩
  | succ m ih =>
    intro s best c S hs hb hD
    have hs5 : s < 512 := by omega
    have e1 : (s : Int) + 1 = ((s + 1 : Nat) : Int) := by omega
    have en : S.2 54 7 = (nOf S0.2 : Int) := by rw [hD.2 54 (by decide) (by decide) (by decide), hW.2.2.2.2.1, hn]
    have hno := ih (s + 1) best c S (by first | decide | omega) (by first | decide | omega) hD
    rw [q_189_7, en, ishl_n _ (by first | decide | omega), if_pos (by first | decide | omega), x_costOf (hD.gw hW) hs5, bR]
    have hT2 : ∃ r S', LQ (WK L xs) (ev (WK L xs) (d + 3)) 189 62 [some (vr 54), some (vi (S0.2 72 2)), some (vi best), some (vl c), none, some (vi (s : Int)), some (vl (cst S.2 s)), none, none] [vi 1] S = some (r, S') ∧ D61 S0 S' := by
      obtain ⟨r, S1, b1, b2⟩ := x_firstShort (L := L) (xs := xs) (d := d) hD hT hW (set := s) hs5
      rw [q_189_62, if_neg (by decide), b1, bR, w32e (x := (s : Int) + 1) (by first | decide | omega) (by first | decide | omega), e1]
      by_cases h3 : r = -1
      · rw [if_pos h3]
        exact ih (s + 1) s (cst S.2 s) S1 (by first | decide | omega) (Or.inr ⟨by omega, by omega⟩) b2
      · rw [if_neg h3]
        exact ih (s + 1) best c S1 (by first | decide | omega) (by first | decide | omega) b2
    have hF2 : ∃ r S', LQ (WK L xs) (ev (WK L xs) (d + 3)) 189 62 [some (vr 54), some (vi (S0.2 72 2)), some (vi best), some (vl c), none, some (vi (s : Int)), some (vl (cst S.2 s)), none, none] [vi 0] S = some (r, S') ∧ D61 S0 S' := by
      rw [q_189_62, if_pos rfl, w32e (x := (s : Int) + 1) (by first | decide | omega) (by first | decide | omega), e1]
      exact hno
    by_cases hb1 : best = -1
    · rw [if_pos hb1]
      exact hT2
    · rw [if_neg hb1]
      obtain ⟨b, hbb⟩ := Int.eq_ofNat_of_zero_le (show 0 ≤ best by omega)
      subst hbb
      have hb5 : b < 512 := by omega
      simp only [lc_lt, lc_eq, j_bitCount (d := d + 2) s (by first | decide | omega), j_bitCount (d := d + 2) b (by first | decide | omega), bR]
      by_cases h1 : cst S.2 s < c
      · rw [if_pos h1]
        exact hT2
      · rw [if_neg h1]
        by_cases h3 : cst S.2 s = c
        · rw [if_pos h3]
          by_cases h4 : (pcn s : Int) < (pcn b : Int)
          · rw [if_pos h4]
            exact hT2
          · rw [if_neg h4]
            exact hF2
        · rw [if_neg h3]
          exact hF2
theorem o_plan (H : Inv S) : OkU L xs 45 288 [] S := by
  have ht := H.gt
  unfold GT at ht
  have hc := H.gc.1
  obtain ⟨S1, a1, a2⟩ := x_reckonWorst (L := L) (xs := xs) (d := 195) H.gt H.gw (S.2 72 3)
  obtain ⟨r, S2, b1, b2⟩ := x_pll (L := L) (xs := xs) (d := 195) H.gt H.gw (2 ^ nOf S.2) 0 (-1) 0 S1 (by first | decide | omega) (Or.inl rfl) a2
  refine ⟨r, plL S2.2 (2 ^ nOf S2.2) 0 (-1), S2, S2, ?_, ?_, b2.inv H, Gw.of b2.1⟩
  · rw [q_45, ht.1, hc, a1, bR, a2.2 15 (by decide) (by decide) (by decide), ht.1, q_189]
    exact (congrArg (bindR · _) b1).trans rfl
  · have := m_pll (L := L) (xs := xs) (d := 196) (b2.gt H.gt) (b2.gw H.gw) (2 ^ nOf S2.2) 0 (-1) (by first | decide | omega) (Or.inl rfl)
    rw [q_288]
    exact this
end
end
section
-- 34.loans
/-! loan, repay -/
noncomputable def itr (h : Nat → Nat → Int) (n : Nat) (t : Int) : Int := ldiv (w64 (w64 (h 142 n * h 143 n) * w32 (t - h 144 n))) 3600000
section
variable {L : Nat} {xs : Nat → Int} {d : Nat} {S : AH}
theorem x_isLoan (p : Int) : ev (WK L xs) (d + 1) 116 [vr 63, vi p] S = some (bi (0 ≤ p ∧ p < S.2 63 10), S) := by
  rw [q_116]
  by_cases h1 : p < 0
  · rw [if_pos h1, bi_F (by first | decide | omega)]
  · rw [if_neg h1]
    by_cases h2 : p < S.2 63 10
    · rw [if_pos h2, bi_T (by first | decide | omega)]
    · rw [if_neg h2, bi_F (by first | decide | omega)]
theorem x_interestOn (hN : GN S.2) {n : Nat} (hn : (n : Int) < S.2 72 93) (t : Int) : ev (WK L xs) (d + 2) 118 [vr 63, vi (n : Int), vi t] S = some (itr S.2 n (if S.2 145 n = -1 then t else S.2 145 n), S) := by
  obtain ⟨-, -, -, ⟨l1, l2⟩, l3, l4, l5⟩ := hN
  obtain ⟨⟨a1, a2, a3, a4⟩, -⟩ := l5 n hn
  have key : ∀ t0 : Int, LQ (WK L xs) (ev (WK L xs) (d + 1)) 118 32 [some (vr 63), some (vi (n : Int)), none, none] [vi t0] S = some (itr S.2 n t0, S) := by
    intro t0
    rw [q_118_32, if_pos (by first | decide | omega), if_pos (by first | decide | omega), if_pos (by first | decide | omega), Int.toNat_natCast, a1, a2, a3]
    rfl
  rw [q_118, x_isLoan, bR]
  simp only [bi_0]
  rw [l3, if_neg (by first | decide | omega), if_pos (by first | decide | omega), Int.toNat_natCast, a4]
  by_cases h : S.2 145 n = -1
  · rw [if_pos h, if_pos h, key]
  · rw [if_neg h, if_neg h, if_pos (by first | decide | omega), key]
theorem x_backOn (hN : GN S.2) {n : Nat} (hn : (n : Int) < S.2 72 93) : ev (WK L xs) (d + 2) 117 [vr 63, vi (n : Int)] S = some (S.2 145 n, S) := by
  obtain ⟨-, -, -, ⟨l1, l2⟩, l3, l4, l5⟩ := hN
  rw [q_117, x_isLoan, bR]
  simp only [bi_0]
  rw [l3, if_neg (by first | decide | omega), if_pos (by first | decide | omega), Int.toNat_natCast, (l5 n hn).1.2.2.2]
theorem x_sumOf (hN : GN S.2) {n : Nat} (hn : (n : Int) < S.2 72 93) : ev (WK L xs) (d + 2) 119 [vr 63, vi (n : Int)] S = some (S.2 142 n, S) := by
  obtain ⟨-, -, -, ⟨l1, l2⟩, l3, l4, l5⟩ := hN
  rw [q_119, x_isLoan, bR]
  simp only [bi_0]
  rw [l3, if_neg (by first | decide | omega), if_pos (by first | decide | omega), Int.toNat_natCast, (l5 n hn).1.1]
theorem m_interest {n : Nat} (hn : n < 30) (t : Int) : ev (WK L xs) (d + 1) 297 [vr 72, vi (n : Int), vi t] S = some (itr S.2 n t, S) := by
  rw [q_297, if_pos (by first | decide | omega), if_pos (by first | decide | omega), if_pos (by first | decide | omega), Int.toNat_natCast]
  rfl
theorem o_loan (H : Inv S) (p q : Int) : Ok L xs 50 298 [vi p, vi q] S := by
  have hN := H.gn
  have ht := H.gt.1
  obtain ⟨-, -, -, ⟨l1, l2⟩, l3, l4, l5⟩ := hN
  by_cases hp : 0 ≤ p ∧ p < S.2 72 93
  · obtain ⟨n, hn⟩ := Int.eq_ofNat_of_zero_le hp.1
    subst hn
    obtain ⟨⟨a1, a2, a3, a4⟩, -⟩ := l5 n hp.2
    refine Ok.same (r := if q = 0 then S.2 142 n else if q = 1 then S.2 143 n else if q = 2 then S.2 144 n else if q = 3 then S.2 145 n else if q = 4 then itr S.2 n (if S.2 145 n = -1 then S.2 72 2 else S.2 145 n) else -1) H ?_ ?_
    · rw [q_50]
      simp only [x_isLoan, q_119, q_121, q_122, q_117, x_interestOn H.gn hp.2, bR, bi_0, l3, ht]
      have hq : (0 : Int) ≤ (n : Int) ∧ (n : Int) < 30 := by omega
      rw [if_neg (fun z => z hp)]
      simp only [if_neg (show ¬ ¬ (0 ≤ (n : Int) ∧ (n : Int) < S.2 72 93) from fun z => z hp), if_pos hq, Int.toNat_natCast, a1, a2, a3, a4]
      repeat' split
      all_goals first | rfl | (exfalso; omega)
    · rw [q_298]
      have hq : (0 : Int) ≤ (n : Int) ∧ (n : Int) < 30 := by omega
      simp only [m_lies, m_interest (show n < 30 by omega), bR, bi_0]
      rw [w32e (by first | decide | omega) (by first | decide | omega), if_neg (by first | decide | omega)]
      simp only [if_pos hq, Int.toNat_natCast]
      repeat' split
      all_goals first | rfl | (exfalso; omega)
  · refine Ok.same (r := -1) H ?_ ?_
    · rw [q_50]
      simp only [x_isLoan, bR, bi_0, l3]
      rw [if_pos hp]
    · rw [q_298]
      simp only [m_lies, bR, bi_0]
      rw [w32e (by first | decide | omega) (by first | decide | omega), if_pos (by first | decide | omega)]
theorem o_repay (H : Inv S) (p : Int) : Ok L xs 49 296 [vi p] S := by
  have hN := H.gn
  have ht := H.gt.1
  have hc : S.2 15 1 = S.2 72 3 := H.gc.1
  obtain ⟨b0, b1, b2, ⟨l1, l2⟩, l3, l4, l5⟩ := hN
  by_cases hp : 0 ≤ p ∧ p < S.2 72 93
  · obtain ⟨n, hn⟩ := Int.eq_ofNat_of_zero_le hp.1
    subst hn
    obtain ⟨⟨a1, a2, a3, a4⟩, -⟩ := l5 n hp.2
    have hq : (0 : Int) ≤ (n : Int) ∧ (n : Int) < 30 := by omega
    by_cases hb : S.2 145 n = -1
    · have hI : ev (WK L xs) 199 118 [vr 63, vi (n : Int), vi (S.2 72 2)] S = some (itr S.2 n (S.2 72 2), S) := by
        have := x_interestOn (L := L) (xs := xs) (d := 197) H.gn hp.2 (S.2 72 2)
        rw [if_pos hb] at this
        exact this
      by_cases hm : S.2 72 3 < w64 (S.2 142 n + itr S.2 n (S.2 72 2))
      · refine Ok.same (r := 0) H ?_ ?_
        · rw [q_49]
          simp only [x_isLoan, x_backOn H.gn hp.2, bR, bi_0, l3]
          rw [if_neg (fun z => z hp), if_pos hb, ht, hI, bR, x_sumOf H.gn hp.2, bR, hc]
          simp only [lc_lt]
          rw [if_pos hm]
        · rw [q_296]
          simp only [m_lies, m_interest (show n < 30 by omega), bR, bi_0, lc_lt, Int.toNat_natCast]
          rw [w32e (by first | decide | omega) (by first | decide | omega), if_neg (by first | decide | omega), if_pos hq, if_pos hb, if_pos hq, if_pos hm]
      · refine ⟨1, wr (wr (wr S 15 1 (w64 (S.2 72 3 - w64 (S.2 142 n + itr S.2 n (S.2 72 2))))) 71 n (S.2 72 2)) 63 11 (w64 (S.2 72 86 + itr S.2 n (S.2 72 2))), wr (wr (wr (wr (wr (wr S 15 1 (w64 (S.2 72 3 - w64 (S.2 142 n + itr S.2 n (S.2 72 2))))) 71 n (S.2 72 2)) 63 11 (w64 (S.2 72 86 + itr S.2 n (S.2 72 2)))) 72 3 (w64 (S.2 72 3 - w64 (S.2 142 n + itr S.2 n (S.2 72 2))))) 72 86 (w64 (S.2 72 86 + itr S.2 n (S.2 72 2)))) 145 n (S.2 72 2), ?_, ?_, ?_, Gw.of rfl⟩
        · rw [q_49]
          simp only [x_isLoan, x_backOn H.gn hp.2, bR, bi_0, l3]
          rw [if_neg (fun z => z hp), if_pos hb, ht, hI, bR, x_sumOf H.gn hp.2, bR, hc]
          simp only [lc_lt]
          rw [if_neg hm, q_120, x_isLoan, bR]
          simp only [bi_0, Int.toNat_natCast, wr_c (show (63 : Nat) ≠ 15 by decide), wr_c (show (63 : Nat) ≠ 71 by decide), l3, l4, ht]
          rw [if_neg (fun z => z hp), if_pos hq, bR]
        · rw [q_296]
          simp only [m_lies, m_interest (show n < 30 by omega), bR, bi_0, lc_lt, Int.toNat_natCast, itr, wr_c (show (72 : Nat) ≠ 63 by decide), wr_c (show (72 : Nat) ≠ 71 by decide), wr_c (show (72 : Nat) ≠ 15 by decide), wr_c (show (145 : Nat) ≠ 63 by decide), wr_c (show (145 : Nat) ≠ 71 by decide), wr_c (show (145 : Nat) ≠ 15 by decide), wr_c (show (142 : Nat) ≠ 63 by decide), wr_c (show (142 : Nat) ≠ 71 by decide), wr_c (show (142 : Nat) ≠ 15 by decide), wr_c (show (143 : Nat) ≠ 63 by decide), wr_c (show (143 : Nat) ≠ 71 by decide), wr_c (show (143 : Nat) ≠ 15 by decide), wr_c (show (144 : Nat) ≠ 63 by decide), wr_c (show (144 : Nat) ≠ 71 by decide), wr_c (show (144 : Nat) ≠ 15 by decide), wr_c (show (142 : Nat) ≠ 72 by decide), wr_c (show (143 : Nat) ≠ 72 by decide), wr_c (show (144 : Nat) ≠ 72 by decide)]
          unfold itr at hm
          rw [w32e (by first | decide | omega) (by first | decide | omega), if_neg (by first | decide | omega), if_pos hq, if_pos hb, if_pos hq, if_neg hm, if_pos hq, if_pos hq]
          simp only [wr_f, wr_c (show (72 : Nat) ≠ 63 by decide), wr_c (show (72 : Nat) ≠ 71 by decide), wr_c (show (72 : Nat) ≠ 15 by decide), if_neg (show ¬ (2 : Nat) = 3 by decide)]
        · refine Inv.upd H ?_ (fun a ha => ?_) (fun k hk => ?_) ?_ ?_ ?_ ?_ ?_ ?_ ?_ ?_ ?_
          · repeat' first | refine Fr.tr ?_ (Fr.wr (by decide)) | exact Fr.rf
          · unfold lvk at ha
            repeat rw [wr_c (by first | decide | omega)]
          · unfold lvf at hk
            rcases hk with rfl | rfl | rfl | rfl | rfl | rfl <;> simp [wr_c, wr_f]
          · simp [HM, wr_c, wr_f]
          · exact H.gt.fr (by simp [wr_c, wr_f]) (by simp [wr_c, wr_f])
          · unfold GC
            simp [wr_c, wr_f, w64_i]
          · exact H.gx.fr (by simp [wr_c, wr_f]) (by simp [wr_c, wr_f])
          · exact H.gb.fr (by simp [wr_c, wr_f]) (by simp [wr_c, wr_f]) (by simp [wr_c, wr_f]) (by simp [wr_c, wr_f])
          · exact H.gp.fr (by simp [wr_c, wr_f]) (by simp [wr_c, wr_f]) (fun a ha => by repeat rw [wr_c (by first | decide | omega)])
          · exact H.gu.fr (by simp [wr_c, wr_f]) (by simp [wr_c, wr_f]) (by simp [wr_c, wr_f]) (fun a ha => by repeat rw [wr_c (by first | decide | omega)])
          · exact H.gw.fr (by simp [wr_c, wr_f]) (by simp [wr_c, wr_f]) (by simp [wr_c, wr_f]) (by simp [wr_c, wr_f]) (fun a ha => by repeat rw [wr_c (by first | decide | omega)])
          · unfold GN
            simp [wr_c, wr_f]
            refine ⟨b0, b1, b2, ⟨l1, l2⟩, l3, fun i hi => ?_⟩
            by_cases e : i = n
            · subst e; simp; exact ⟨⟨a1, a2, a3⟩, (l5 i hi).2⟩
            · simp [e]; exact l5 i hi
    · refine Ok.same (r := 0) H ?_ ?_
      · rw [q_49]
        simp only [x_isLoan, q_117, bR, bi_0, l3]
        rw [if_neg (fun z => z hp), if_neg (fun z => z hp), if_pos hq, bR, Int.toNat_natCast, a4, if_neg hb]
      · rw [q_296]
        simp only [m_lies, bR, bi_0]
        rw [w32e (by first | decide | omega) (by first | decide | omega), if_neg (by first | decide | omega), if_pos hq, Int.toNat_natCast, if_neg hb]
  · refine Ok.same (r := 0) H ?_ ?_
    · rw [q_49]
      simp only [x_isLoan, bR, bi_0, l3]
      rw [if_pos hp]
    · rw [q_296]
      simp only [m_lies, bR, bi_0]
      rw [w32e (by first | decide | omega) (by first | decide | omega), if_pos (by first | decide | omega)]
end
end
