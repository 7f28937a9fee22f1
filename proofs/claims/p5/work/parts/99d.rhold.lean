/-! the reference reckons a code -/
/-- the greatest rank among those who signed, of the first k hands -/
noncomputable def rkF (h : Nat → Nat → Int) (sg : Nat) : Nat → Int
  | 0 => 0
  | k + 1 => if sg.testBit k then max (rkF h sg k) (h 76 k) else rkF h sg k
noncomputable def rkC (h : Nat → Nat → Int) (c : Nat) : Int := rkF h (h 114 c).toNat (h 72 5).toNat
/-- how many claims of its hand were paid this year -/
noncomputable def pdT (h : Nat → Nat → Int) (c x : Nat) : Int := if h 108 x = h 108 c ∧ pin h x (yr (h 72 2)) = true then 1 else 0
noncomputable def pdH (h : Nat → Nat → Int) (c : Nat) : Int := sm (pdT h c) (nClaims h)
noncomputable def leC (h : Nat → Nat → Int) (c : Nat) (l x : Int) : Int := if x = 97 then h 111 c else if x = 104 then h 109 c else if x = 107 then h 110 c else if x = 113 then pdH h c else if x = 114 then rkC h c else if x = 121 then Int.tmod (h 72 2) 360 else l
noncomputable def udC (h : Nat → Nat → Int) (c : Nat) (N : Int) : Bool := decide (N < h 72 4) && uN h (h 109 c) N
/-- the stack of values -/
noncomputable def Stk (S : AH) (s : List (Option Int)) : Prop := ∀ (i : Nat) (o : Option Int), s[i]? = some o → (o = none → S.2 129 (s.length - 1 - i) = 1) ∧ ∀ v, o = some v → S.2 129 (s.length - 1 - i) = 0 ∧ S.2 128 (s.length - 1 - i) = v
noncomputable def Vf (S T : AH) : Prop := T.1 = S.1 ∧ ∀ a, a ≠ 128 → a ≠ 129 → T.2 a = S.2 a
section
variable {L : Nat} {xs : Nat → Int} {d : Nat} {S S' T U W : AH}
theorem Vf.rf : Vf S S := ⟨rfl, fun _ _ _ => rfl⟩
theorem Vf.tr (h : Vf S T) (k : Vf T U) : Vf S U := ⟨k.1.trans h.1, fun a q1 q2 => (k.2 a q1 q2).trans (h.2 a q1 q2)⟩
theorem Vf.w {a k : Nat} {v : Int} (h : a = 128 ∨ a = 129) : Vf S (wr S a k v) := ⟨rfl, fun b q1 q2 => wr_c (by first | decide | omega)⟩
theorem pdT_bd (h : Nat → Nat → Int) (c x : Nat) : 0 ≤ pdT h c x ∧ pdT h c x ≤ 1 := by
  unfold pdT
  split <;> omega
theorem rkF_bd (hR : RP S.2) (sg : Nat) : ∀ k : Nat, (k : Int) ≤ S.2 72 5 → 0 ≤ rkF S.2 sg k ∧ rkF S.2 sg k ≤ 9 := by
  intro k
  induction k with
  | zero => intro _; exact ⟨Int.le_refl 0, by show (0 : Int) ≤ 9; decide⟩
  | succ k ih =>
    intro hk
    have h1 := ih (by first | decide | omega)
    have h2 := hR.2.2.2 k (by first | decide | omega)
    show 0 ≤ (if sg.testBit k then max (rkF S.2 sg k) (S.2 76 k) else rkF S.2 sg k) ∧ (if sg.testBit k then max (rkF S.2 sg k) (S.2 76 k) else rkF S.2 sg k) ≤ 9
    split <;> omega
theorem m_rank (hR : RP S.2) (hK : RK S.2) {c : Nat} (hc : (c : Int) < S.2 72 52) : ev (WK L xs) (d + 1) 270 [vr 72, vi (c : Int)] S = some (rkC S.2 c, S) := by
  obtain ⟨-, -, -, -, -, r6, -⟩ := hK.2.2.2.1 c hc
  have h300 := hK.1.2
  have h16 := hR.2.1
  obtain ⟨sg, hsg⟩ := Int.eq_ofNat_of_zero_le r6.1
  have key : ∀ (m k : Nat), k + m = (S.2 72 5).toNat → LQ (WK L xs) (ev (WK L xs) d) 270 4 [some (vr 72), some (vi (c : Int)), some (vi (rkF S.2 sg k)), some (vi (k : Int))] [] S = some (rkF S.2 sg (S.2 72 5).toNat, S) := by
    intro m
    induction m with
    | zero =>
      intro k hk
      rw [q_270_4, if_neg (by first | decide | omega), show k = (S.2 72 5).toNat by omega]
    | succ m ih =>
      intro k hk
      have hi := ih (k + 1) (by first | decide | omega)
      have e1 : w32 ((k : Int) + 1) = ((k + 1 : Nat) : Int) := by
        rw [w32e (by first | decide | omega) (by first | decide | omega)]
        rfl
      have hk16 : k < 16 := by omega
      rw [q_270_4, if_pos (by first | decide | omega), if_pos (by first | decide | omega), Int.toNat_natCast, hsg, bit16 (by first | decide | omega) hk16, Int.toNat_natCast, e1, ← hi]
      show _ = LQ (WK L xs) (ev (WK L xs) d) 270 4 [some (vr 72), some (vi (c : Int)), some (vi (if sg.testBit k then max (rkF S.2 sg k) (S.2 76 k) else rkF S.2 sg k)), some (vi ((k + 1 : Nat) : Int))] [] S
      have hq : (0 : Int) ≤ (k : Int) ∧ (k : Int) < 16 := by omega
      by_cases q : sg.testBit k = true
      · rw [if_pos q, if_pos q, if_pos (show (1 : Int) = 1 from rfl), if_pos hq]
        by_cases q2 : rkF S.2 sg k < S.2 76 k
        · rw [if_pos q2, if_pos hq, show max (rkF S.2 sg k) (S.2 76 k) = S.2 76 k by omega]
        · rw [if_neg q2, show max (rkF S.2 sg k) (S.2 76 k) = rkF S.2 sg k by omega]
      · rw [if_neg q, if_neg q, if_neg (show ¬ (0 : Int) = 1 by decide)]
  rw [q_270]
  unfold rkC
  rw [hsg, Int.toNat_natCast]
  exact key (S.2 72 5).toNat 0 (by first | decide | omega)
theorem m_paidHand (hK : RK S.2) {c : Nat} (hc : (c : Int) < S.2 72 52) : LQ (WK L xs) (ev (WK L xs) (d + 1)) 269 110 [some (vr 72), none, some (vi (c : Int)), some (vi 0), some (vi 0)] [] S = some (pdH S.2 c, S) := by
  have h300 := hK.1.2
  have hn := hK.nC
  have key : ∀ (m k : Nat), k + m = nClaims S.2 → LQ (WK L xs) (ev (WK L xs) (d + 1)) 269 110 [some (vr 72), none, some (vi (c : Int)), some (vi (sm (pdT S.2 c) k)), some (vi (k : Int))] [] S = some (sm (pdT S.2 c) (nClaims S.2), S) := by
    intro m
    induction m with
    | zero =>
      intro k hk
      rw [q_269_110, if_neg (by first | decide | omega), show k = nClaims S.2 by omega]
    | succ m ih =>
      intro k hk
      have hi := ih (k + 1) (by first | decide | omega)
      have e1 : w32 ((k : Int) + 1) = ((k + 1 : Nat) : Int) := by
        rw [w32e (by first | decide | omega) (by first | decide | omega)]
        rfl
      have hb := sm_bd (f := pdT S.2 c) (M := 1) (n := k) (fun j _ => pdT_bd _ _ _)
      rw [sm_su] at hi
      rw [q_269_110, if_pos (by first | decide | omega), if_pos (by first | decide | omega), if_pos (by first | decide | omega), Int.toNat_natCast, Int.toNat_natCast, m_year, bR, m_paidIn (by first | decide | omega), bR, e1, w32e (x := sm (pdT S.2 c) k + 0) (by first | decide | omega) (by first | decide | omega), w32e (x := sm (pdT S.2 c) k + 1) (by first | decide | omega) (by first | decide | omega), show idiv (S.2 72 2) 360 = yr (S.2 72 2) from rfl]
      simp only [bi_0]
      by_cases q1 : S.2 108 k = S.2 108 c
      · rw [if_pos q1]
        by_cases q2 : pin S.2 k (yr (S.2 72 2)) = true
        · have : pdT S.2 c k = 1 := by unfold pdT; rw [if_pos ⟨q1, q2⟩]
          rw [if_neg (fun z => z q2), ← hi, this]
        · have : pdT S.2 c k = 0 := by unfold pdT; rw [if_neg (fun z => q2 z.2)]
          rw [if_pos q2, ← hi, this]
      · have : pdT S.2 c k = 0 := by unfold pdT; rw [if_neg (fun z => q1 z.1)]
        rw [if_neg q1, ← hi, this]
  exact key (nClaims S.2) 0 (by first | decide | omega)
theorem m_letter (hR : RP S.2) (hK : RK S.2) {c : Nat} (hc : (c : Int) < S.2 72 52) (h75 : S.2 72 75 = c) (x : Int) : ev (WK L xs) (d + 2) 269 [vr 72, vi x] S = some (leC S.2 c (S.2 72 76) x, S) := by
  have h300 := hK.1.2
  unfold leC
  rw [q_269, h75, Int.toNat_natCast]
  by_cases q1 : x = 97
  · rw [if_pos q1, if_pos q1, if_pos (by first | decide | omega)]
  rw [if_neg q1, if_neg q1]
  by_cases q2 : x = 104
  · rw [if_pos q2, if_pos q2, if_pos (by first | decide | omega)]
  rw [if_neg q2, if_neg q2]
  by_cases q3 : x = 107
  · rw [if_pos q3, if_pos q3, if_pos (by first | decide | omega)]
  rw [if_neg q3, if_neg q3]
  by_cases q4 : x = 113
  · rw [if_pos q4, if_pos q4]
    exact m_paidHand hK hc
  rw [if_neg q4, if_neg q4]
  by_cases q5 : x = 114
  · rw [if_pos q5, if_pos q5, m_rank hR hK hc, bR]
  rw [if_neg q5, if_neg q5]
  by_cases q6 : x = 121
  · rw [if_pos q6, if_pos q6]
  · rw [if_neg q6, if_neg q6]
theorem m_worked (c x y : Int) : ev (WK L xs) (d + 1) 268 [vi c, vl x, vl y] S = some (if (c = 47 ∨ c = 37) ∧ y = 0 then 0 else wkA c x y, S) := by
  rw [q_268]
  unfold wkA
  simp only [lc_lt, lc_gt, lc_eq, b01]
  by_cases q1 : c = 37
  · rw [if_pos q1]
    by_cases q2 : y = 0
    · rw [if_pos q2, if_pos ⟨Or.inr q1, q2⟩]
    · rw [if_neg q2, if_neg q2, if_neg (fun z => q2 z.2), if_neg (by first | decide | omega), if_neg (by first | decide | omega), if_neg (by first | decide | omega), if_neg (by first | decide | omega), if_pos q1]
  rw [if_neg q1]
  by_cases q3 : c = 42
  · rw [if_pos q3, if_neg (by first | decide | omega), if_neg (by first | decide | omega), if_neg (by first | decide | omega), if_pos q3]
  rw [if_neg q3]
  by_cases q4 : c = 43
  · rw [if_pos q4, if_neg (by first | decide | omega), if_pos q4]
  rw [if_neg q4]
  by_cases q5 : c = 45
  · rw [if_pos q5, if_neg (by first | decide | omega), if_neg q4, if_pos q5]
  rw [if_neg q5]
  by_cases q6 : c = 47
  · rw [if_pos q6]
    by_cases q2 : y = 0
    · rw [if_pos q2, if_pos ⟨Or.inl q6, q2⟩]
    · rw [if_neg q2, if_neg q2, if_neg (fun z => q2 z.2), if_neg q4, if_neg q5, if_neg q3, if_pos q6]
  rw [if_neg q6, if_neg (show ¬ ((c = 47 ∨ c = 37) ∧ y = 0) from fun z => by omega), if_neg q4, if_neg q5, if_neg q3, if_neg q6, if_neg q1]
  by_cases q7 : c = 60
  · rw [if_pos q7, if_pos q7]
  rw [if_neg q7, if_neg q7]
  by_cases q8 : c = 62
  · rw [if_pos q8, if_pos q8]
  · rw [if_neg q8, if_neg q8]
theorem Stk.tail {o : Option Int} {s : List (Option Int)} (h : Stk S (o :: s)) : Stk S s := by
  intro i x hx
  have hl := (List.getElem?_eq_some_iff.mp hx).1
  have := h (i + 1) x hx
  rw [List.length_cons, show s.length + 1 - 1 - (i + 1) = s.length - 1 - i by omega] at this
  exact this
theorem Stk.push {o : Option Int} {s : List (Option Int)} (h : Stk S s) (hT : ∀ j, j < s.length → T.2 128 j = S.2 128 j ∧ T.2 129 j = S.2 129 j) (h1 : o = none → T.2 129 s.length = 1) (h2 : ∀ v, o = some v → T.2 129 s.length = 0 ∧ T.2 128 s.length = v) : Stk T (o :: s) := by
  intro i x hx
  cases i with
  | zero =>
    simp only [List.getElem?_cons_zero, Option.some.injEq] at hx
    subst hx
    rw [List.length_cons, show s.length + 1 - 1 - 0 = s.length by omega]
    exact ⟨h1, h2⟩
  | succ i =>
    simp only [List.getElem?_cons_succ] at hx
    have hl := (List.getElem?_eq_some_iff.mp hx).1
    obtain ⟨e1, e2⟩ := hT (s.length - 1 - i) (by first | decide | omega)
    rw [List.length_cons, show s.length + 1 - 1 - (i + 1) = s.length - 1 - i by omega, e1, e2]
    exact h i x hx
theorem Stk.top {o : Option Int} {s : List (Option Int)} (h : Stk S (o :: s)) : (o = none → S.2 129 s.length = 1) ∧ ∀ v, o = some v → S.2 129 s.length = 0 ∧ S.2 128 s.length = v := by
  have := h 0 o rfl
  rw [List.length_cons, show s.length + 1 - 1 - 0 = s.length by omega] at this
  exact this
theorem m_does {a b : Option Int} {s : List (Option Int)} (h : Stk S (b :: a :: s)) (hl : s.length + 2 ≤ 220) (c : Int) : ∃ T, ev (WK L xs) (d + 2) 267 [vr 72, vi c, vi ((s.length + 2 : Nat) : Int)] S = some (0, T) ∧ Vf S T ∧ Stk T (opA c a b :: s) := by
  obtain ⟨b1, b2⟩ := h.top
  rw [List.length_cons] at b1 b2
  obtain ⟨a1, a2⟩ := h.tail.top
  have hs := h.tail.tail
  have e2 : w32 (((s.length + 2 : Nat) : Int) - 2) = (s.length : Int) := by
    rw [w32e (by first | decide | omega) (by first | decide | omega)]
    omega
  have e1 : w32 (((s.length + 2 : Nat) : Int) - 1) = ((s.length + 1 : Nat) : Int) := by
    rw [w32e (by first | decide | omega) (by first | decide | omega)]
    omega
  have hq : (0 : Int) ≤ (s.length : Int) ∧ (s.length : Int) < 220 := by omega
  have hq1 : (0 : Int) ≤ ((s.length + 1 : Nat) : Int) ∧ ((s.length + 1 : Nat) : Int) < 220 := by omega
  have keep : ∀ {o : Option Int}, o = a → Stk S (o :: s) := fun {o} e => by rw [e]; exact h.tail
  have jn : (c = 38 ∨ c = 124) → ∃ T, LQ (WK L xs) (ev (WK L xs) (d + 1)) 267 21 [some (vr 72), some (vi c), none, some (vi (s.length : Int)), some (vi ((s.length + 1 : Nat) : Int)), none] [] S = some (0, T) ∧ Vf S T ∧ Stk T (opA c a b :: s) := by
    intro hc
    have copy : ∃ T, LQ (WK L xs) (ev (WK L xs) (d + 1)) 267 56 [some (vr 72), none, none, some (vi (s.length : Int)), some (vi ((s.length + 1 : Nat) : Int)), none] [vi 1] S = some (0, T) ∧ Vf S T ∧ Stk T (b :: s) := by
      have h01 : S.2 129 (s.length + 1) = 0 ∨ S.2 129 (s.length + 1) = 1 := by
        cases b with
        | none => exact Or.inr (b1 rfl)
        | some v => exact Or.inl (b2 v rfl).1
      refine ⟨wr (wr S 128 s.length (S.2 128 (s.length + 1))) 129 s.length (S.2 129 (s.length + 1)), ?_, (Vf.w (by first | decide | omega)).tr (Vf.w (by first | decide | omega)), hs.push (fun j hj => ?_) (fun e => ?_) (fun v e => ?_)⟩
      · rw [q_267_56, if_neg (by decide), if_pos hq1, if_pos hq, if_pos hq1, if_pos hq, Int.toNat_natCast, Int.toNat_natCast, if_pos h01]
      · rw [wr_c (by decide), wr_f, if_neg (by first | decide | omega), wr_f, if_neg (by first | decide | omega), wr_c (by decide)]
        exact ⟨rfl, rfl⟩
      · rw [wr_f, if_pos rfl, b1 e]
      · rw [wr_f, if_pos rfl, wr_c (by decide), wr_f, if_pos rfl]
        exact b2 v e
    have stay : LQ (WK L xs) (ev (WK L xs) (d + 1)) 267 56 [some (vr 72), none, none, some (vi (s.length : Int)), some (vi ((s.length + 1 : Nat) : Int)), none] [vi 0] S = some (0, S) := by rw [q_267_56, if_pos rfl]
    cases a with
    | none =>
      refine ⟨S, ?_, Vf.rf, keep rfl⟩
      rw [q_267_21, if_pos hq, Int.toNat_natCast, a1 rfl, if_neg (by decide), stay]
    | some x =>
      obtain ⟨x1, x2⟩ := a2 x rfl
      rw [q_267_21, if_pos hq, Int.toNat_natCast, x1, if_pos rfl, if_pos hq, x2]
      simp only [lc_eq]
      by_cases q : c = 38
      · rw [if_pos q]
        by_cases q2 : x = 1
        · rw [if_pos q2]
          obtain ⟨T, t1, t2, t3⟩ := copy
          refine ⟨T, t1, t2, ?_⟩
          rw [show opA c (some x) b = b by rw [q, q2]; rfl]
          exact t3
        · rw [if_neg q2]
          refine ⟨S, stay, Vf.rf, keep ?_⟩
          show (if c = 38 then (if x = 1 then b else some x) else _) = some x
          rw [if_pos q, if_neg q2]
      · have q4 : c = 124 := hc.resolve_left q
        rw [if_neg q]
        by_cases q2 : x = 0
        · rw [if_pos q2]
          obtain ⟨T, t1, t2, t3⟩ := copy
          refine ⟨T, t1, t2, ?_⟩
          rw [show opA c (some x) b = b by rw [q4, q2]; rfl]
          exact t3
        · rw [if_neg q2]
          refine ⟨S, stay, Vf.rf, keep ?_⟩
          show (if c = 38 then _ else if c = 124 then (if x = 0 then b else some x) else _) = some x
          rw [if_neg q, if_pos q4, if_neg q2]
  by_cases c1 : c = 38
  · obtain ⟨T, t1, t2⟩ := jn (Or.inl c1)
    exact ⟨T, by rw [q_267, if_pos c1, e2, e1]; exact t1, t2⟩
  by_cases c2 : c = 124
  · obtain ⟨T, t1, t2⟩ := jn (Or.inr c2)
    exact ⟨T, by rw [q_267, if_neg c1, if_pos c2, e2, e1]; exact t1, t2⟩
  have fin : ∀ f : Int, (f = 0 ∨ f = 1) → (opA c a b = none → f = 1) → (∀ v, opA c a b = some v → f = 0 ∧ (if (c = 47 ∨ c = 37) ∧ S.2 128 (s.length + 1) = 0 then 0 else wkA c (S.2 128 s.length) (S.2 128 (s.length + 1))) = v) → ∃ T, LQ (WK L xs) (ev (WK L xs) (d + 1)) 267 144 [some (vr 72), some (vi c), none, some (vi (s.length : Int)), some (vi ((s.length + 1 : Nat) : Int)), none] [vi f, vi (s.length : Int), vr 129] S = some (0, T) ∧ Vf S T ∧ Stk T (opA c a b :: s) := by
    intro f hf h1 h2
    refine ⟨wr (wr S 129 s.length f) 128 s.length (if (c = 47 ∨ c = 37) ∧ S.2 128 (s.length + 1) = 0 then 0 else wkA c (S.2 128 s.length) (S.2 128 (s.length + 1))), ?_, (Vf.w (by first | decide | omega)).tr (Vf.w (by first | decide | omega)), hs.push (fun j hj => ?_) (fun e => ?_) (fun v e => ?_)⟩
    · rw [q_267_144, if_pos hq, if_pos hf, if_pos hq, if_pos hq1, Int.toNat_natCast, Int.toNat_natCast, m_worked, bR, if_pos hq]
    · rw [wr_f, if_neg (by first | decide | omega), wr_c (by decide), wr_c (by decide), wr_f, if_neg (by first | decide | omega)]
      exact ⟨rfl, rfl⟩
    · rw [wr_c (by decide), wr_f, if_pos rfl, h1 e]
    · rw [wr_c (by decide), wr_f, if_pos rfl, wr_f, if_pos rfl]
      exact h2 v e
  rw [q_267, if_neg c1, if_neg c2, e2, e1, if_pos hq, Int.toNat_natCast, Int.toNat_natCast]
  cases a with
  | none =>
    rw [a1 rfl, if_neg (by decide)]
    exact fin 1 (Or.inr rfl) (fun _ => rfl) (fun v e => absurd e (by rw [opA_none]; simp))
  | some x =>
    obtain ⟨x1, x2⟩ := a2 x rfl
    rw [x1, if_pos rfl, if_pos hq1]
    have hopN : opA c (some x) none = none := by
      show (if c = 38 then _ else if c = 124 then _ else none) = none
      rw [if_neg c1, if_neg c2]
    have hopS : ∀ y, opA c (some x) (some y) = if (c = 47 ∨ c = 37) ∧ y = 0 then none else some (wkA c x y) := fun y => by
      show (if c = 38 then _ else if c = 124 then _ else if (c = 47 ∨ c = 37) ∧ y = 0 then none else some (wkA c x y)) = _
      rw [if_neg c1, if_neg c2]
    cases b with
    | none =>
      rw [b1 rfl, if_neg (by decide)]
      exact fin 1 (Or.inr rfl) (fun _ => rfl) (fun v e => absurd e (by rw [hopN]; simp))
    | some y =>
      obtain ⟨y1, y2⟩ := b2 y rfl
      have hop' := hopS y
      rw [y1, if_pos rfl]
      simp only [lc_eq]
      rw [x2, y2] at fin
      rw [y2]
      by_cases q : (c = 47 ∨ c = 37) ∧ y = 0
      · rw [if_pos q] at hop'
        have f1 := fin 1 (Or.inr rfl) (fun _ => rfl) (fun v e => absurd e (by rw [hop']; simp))
        by_cases q1 : c = 47
        · rw [if_pos q1, if_pos hq1, if_pos q.2]
          exact f1
        · rw [if_neg q1, if_pos (q.1.resolve_left q1), if_pos hq1, if_pos q.2]
          exact f1
      · rw [if_neg q] at hop'
        have f0 := fin 0 (Or.inl rfl) (fun e => absurd e (by rw [hop']; simp)) (fun v e => ⟨rfl, by rw [if_neg q]; rw [hop'] at e; exact Option.some.inj e⟩)
        by_cases q1 : c = 47
        · rw [if_pos q1, if_pos hq1, if_neg (fun z => q ⟨Or.inl q1, z⟩)]
          exact f0
        · rw [if_neg q1]
          by_cases q2 : c = 37
          · rw [if_pos q2, if_pos hq1, if_neg (fun z => q ⟨Or.inr q2, z⟩)]
            exact f0
          · rw [if_neg q2]
            exact f0
end
