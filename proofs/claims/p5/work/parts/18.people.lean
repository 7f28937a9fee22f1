/-! climbing, below a bound -/
theorem und_fu {p : Nat → Int} {N : Nat} (hp : ∀ i : Nat, i < N → p i < i) : ∀ (n m a b : Nat), a < N → a ≤ n → a ≤ m → und p n a b = und p m a b := by
  intro n
  induction n with
  | zero =>
    intro m a b h0 h1 h2
    have e : a = 0 := by omega
    subst e
    cases m with
    | zero => rfl
    | succ m =>
      have := hp 0 h0
      simp only [und]
      rw [decide_eq_false (by first | decide | omega)]
      simp
  | succ n ih =>
    intro m a b h0 h1 h2
    cases m with
    | zero =>
      have e : a = 0 := by omega
      subst e
      have := hp 0 h0
      simp only [und]
      rw [decide_eq_false (by first | decide | omega)]
      simp
    | succ m =>
      simp only [und]
      have := hp a h0
      by_cases hq : 0 ≤ p a
      · rw [ih m (p a).toNat b (by first | decide | omega) (by first | decide | omega) (by first | decide | omega)]
      · rw [decide_eq_false hq]
        simp
theorem und_step {p : Nat → Int} {N : Nat} (hp : ∀ i : Nat, i < N → p i < i) {a : Nat} (ha : a < N) (b : Nat) : und p a a b = (a == b || (decide (0 ≤ p a) && und p (p a).toNat (p a).toNat b)) := by
  cases a with
  | zero =>
    have := hp 0 ha
    simp only [und]
    rw [decide_eq_false (by first | decide | omega)]
    simp
  | succ a =>
    have h := hp (a + 1) ha
    simp only [und]
    by_cases hq : 0 ≤ p (a + 1)
    · rw [und_fu hp a (p (a + 1)).toNat (p (a + 1)).toNat b (by first | decide | omega) (by first | decide | omega) (by first | decide | omega)]
    · rw [decide_eq_false hq]
      simp
theorem und_congr {p p' : Nat → Int} {N : Nat} (hp : ∀ i : Nat, i < N → p i < i) (he : ∀ i : Nat, i < N → p' i = p i) : ∀ (n a b : Nat), a < N → und p' n a b = und p n a b := by
  intro n
  induction n with
  | zero => intro a b h; rfl
  | succ n ih =>
    intro a b h
    have h1 := hp a h
    simp only [und]
    rw [he a h]
    by_cases hq : 0 ≤ p a
    · rw [ih (p a).toNat b (by first | decide | omega)]
    · rw [decide_eq_false hq]
      simp
/-- a is no further up than itself -/
theorem und_le {p : Nat → Int} {N : Nat} (hp : ∀ i : Nat, i < N → p i < i) : ∀ (n a b : Nat), a < N → und p n a b = true → b ≤ a := by
  intro n
  induction n with
  | zero => intro a b h hu; simp [und] at hu; omega
  | succ n ih =>
    intro a b h hu
    have h1 := hp a h
    simp only [und, Bool.or_eq_true, Bool.and_eq_true, decide_eq_true_eq, beq_iff_eq] at hu
    rcases hu with q | ⟨q1, q2⟩
    · omega
    · have := ih (p a).toNat b (by first | decide | omega) q2
      omega
theorem RP.up {h : Nat → Nat → Int} (H : RP h) : ∀ i : Nat, i < (h 72 4).toNat → h 74 i < i := fun i hi => (H.2.2.1 i (by have := H.1; omega)).2
section
variable {L : Nat} {xs : Nat → Int} {d : Nat} {S : AH}
theorem m_undL (hR : RP S.2) (b : Nat) : ∀ (n a : Nat), a ≤ n → (a : Int) < S.2 72 4 → LQ (WK L xs) (ev (WK L xs) d) 199 2 [some (vr 72), none, some (vi b), some (vi a)] [] S = some (bi (und (S.2 74) a a b = true), S) := by
  intro n
  induction n with
  | zero =>
    intro a h1 h2
    have e : a = 0 := by omega
    subst e
    have hp := hR.2.2.1 0 h2
    rw [q_199_2, if_neg (by first | decide | omega)]
    by_cases hb : b = 0
    · subst hb
      rw [if_pos rfl, if_pos rfl, bi_T (und_self _ _ _)]
    · rw [if_neg (by first | decide | omega), if_pos (by first | decide | omega)]
      have hq : S.2 74 (((0 : Nat) : Int).toNat) = -1 := by
        show S.2 74 0 = -1
        omega
      rw [hq, q_199_2, if_pos rfl, if_neg (by first | decide | omega), bi_F]
      rw [und_step hR.up (by first | decide | omega)]
      have hq : S.2 74 0 = -1 := hq
      rw [hq]
      simp
      omega
  | succ n ih =>
    intro a h1 h2
    have hp := hR.2.2.1 a h2
    have h40 := hR.1
    rw [q_199_2, if_neg (by first | decide | omega)]
    by_cases hb : b = a
    · subst hb
      rw [if_pos rfl, if_pos rfl, bi_T (und_self _ _ _)]
    · rw [if_neg (by first | decide | omega), if_pos (by first | decide | omega), Int.toNat_natCast]
      have us := und_step (p := S.2 74) hR.up (a := a) (by first | decide | omega) b
      by_cases hq : 0 ≤ S.2 74 a
      · have e1 : S.2 74 a = (((S.2 74 a).toNat : Nat) : Int) := by omega
        rw [e1, ih (S.2 74 a).toNat (by first | decide | omega) (by first | decide | omega)]
        congr 2
        apply bi_iff
        rw [us, decide_eq_true hq]
        simp
        omega
      · have e1 : S.2 74 a = -1 := by omega
        rw [e1, q_199_2, if_pos rfl, if_neg (by first | decide | omega), bi_F]
        rw [us, decide_eq_false hq]
        simp
        omega
/-- is a under b? -/
noncomputable def uN (h : Nat → Nat → Int) (a b : Int) : Bool := und (h 74) a.toNat a.toNat b.toNat
theorem m_isUnder (hR : RP S.2) (a b : Int) (ha : 0 ≤ a) (ha2 : a < S.2 72 4) (hb : 0 ≤ b) : ev (WK L xs) (d + 1) 199 [vr 72, vi a, vi b] S = some (bi (uN S.2 a b = true), S) := by
  rw [q_199]
  obtain ⟨m, rfl⟩ := Int.eq_ofNat_of_zero_le ha
  obtain ⟨k, rfl⟩ := Int.eq_ofNat_of_zero_le hb
  exact m_undL hR k m m (Nat.le_refl _) ha2
theorem x_isUnder (hP : GP S.2) (a b : Int) : ev (WK L xs) (d + 2) 127 [vr 17, vi a, vi b] S = some (bi ((0 ≤ a ∧ a < S.2 72 4) ∧ (0 ≤ b ∧ b < S.2 72 4) ∧ uN S.2 a b = true), S) := by
  obtain ⟨hR, e1, -, hA, -⟩ := hP
  have h40 := hR.1
  rw [q_127]
  simp only [x_isHead, bR, bi_0, e1]
  by_cases ha : 0 ≤ a ∧ a < S.2 72 4
  · rw [if_neg (fun q => q ha)]
    by_cases hb : 0 ≤ b ∧ b < S.2 72 4
    · rw [if_neg (fun q => q hb), if_pos (by first | decide | omega)]
      have hq := hA a.toNat (by first | decide | omega)
      rw [lbit _ _ hq.1 (by first | decide | omega) (by first | decide | omega) (by first | decide | omega), hq.2.2]
      simp only [lc_eq]
      rw [ite_bin]
      congr 2
      apply bi_iff
      unfold uN
      cases und (S.2 74) a.toNat a.toNat b.toNat
      · simp
      · simp [ha, hb]
    · rw [if_pos hb, bi_F (fun q => hb q.2.1)]
  · rw [if_pos ha, bi_F (fun q => ha q.1)]
theorem x_headsAbove (hP : GP S.2) (a : Int) : ev (WK L xs) (d + 2) 126 [vr 17, vi a] S = some (if 0 ≤ a ∧ a < S.2 72 4 then S.2 18 a.toNat else 0, S) := by
  obtain ⟨hR, e1, -⟩ := hP
  have h40 := hR.1
  rw [q_126]
  simp only [x_isHead, bR, bi_0, e1]
  by_cases ha : 0 ≤ a ∧ a < S.2 72 4
  · rw [if_neg (fun q => q ha), if_pos (by first | decide | omega), if_pos ha]
  · rw [if_pos ha, if_neg ha]
end
