/-! check -/
/-- how many of the first i payments are of the year y -/
noncomputable def pR (h : Nat → Nat → Int) (y : Int) (i : Nat) : Int := sm (fun j => if pin h (h 45 j).toNat y = true then 1 else 0) i
noncomputable def rnk (h : Nat → Nat → Int) (y t : Int) (n : Nat) : Int := sm (fun e => if pin h e y = true ∧ h 117 e < t then 1 else 0) n
theorem pR_mono {h : Nat → Nat → Int} {y : Int} {i : Nat} : ∀ k : Nat, pR h y i ≤ pR h y (i + k) := by
  intro k
  induction k with
  | zero => exact Int.le_refl _
  | succ k ih =>
    have e : pR h y (i + (k + 1)) = pR h y (i + k) + if pin h (h 45 (i + k)).toNat y = true then 1 else 0 := rfl
    rw [e]
    split <;> omega
theorem pR_bd {h : Nat → Nat → Int} {y : Int} (i : Nat) : 0 ≤ pR h y i ∧ pR h y i ≤ i * 1 := by
  refine sm_bd (fun j _ => ?_)
  split <;> omega
section
variable {L : Nat} {xs : Nat → Int} {d : Nat} {S S' : AH} {o : Nat}
theorem rnk_swap (gk : GK S) (y : Int) : ∀ i : Nat, (i : Int) ≤ S.2 72 53 → rnk S.2 y i (nClaims S.2) = pR S.2 y i := by
  obtain ⟨hn, hn3⟩ := nC gk
  intro i
  induction i with
  | zero =>
    intro _
    have e : pR S.2 y 0 = 0 := rfl
    rw [e, ← sm_zero (nClaims S.2)]
    refine sm_congr (fun c hc => ?_)
    rw [if_neg]
    rintro ⟨z1, z2⟩
    have hr := (gk.1.2.2.2.1 c (by first | decide | omega)).2.2.2.2.2.2.1
    unfold pin at z1
    simp only [decide_eq_true_eq] at z1
    omega
  | succ i ih =>
    intro hi
    have hh := ih (by first | decide | omega)
    obtain ⟨p1, p2, p3, p4⟩ := gk.2.2.2.2.2.2.1 i (by first | decide | omega)
    obtain ⟨e0, he0⟩ := Int.eq_ofNat_of_zero_le p1
    rw [he0, Int.toNat_natCast] at p3 p4
    have hu : pR S.2 y (i + 1) = pR S.2 y i + if pin S.2 (S.2 45 i).toNat y = true then 1 else 0 := rfl
    rw [hu, ← hh, he0, Int.toNat_natCast]
    have h1 := sm_one (f := fun e => if pin S.2 e y = true ∧ S.2 117 e < (i : Int) then 1 else 0) (g := fun e => if pin S.2 e y = true ∧ S.2 117 e < ((i + 1 : Nat) : Int) then 1 else 0) (c := e0) (n := nClaims S.2) (by first | decide | omega) (fun e he hne => by
      by_cases q : pin S.2 e y = true
      · have hd : S.2 115 e ≠ -1 := by
          unfold pin at q
          simp only [decide_eq_true_eq] at q
          exact q.1
        have hb := gk.2.2.2.2.2.2.2.1 e (by first | decide | omega) hd
        by_cases q2 : S.2 117 e = i
        · rw [q2, Int.toNat_natCast, he0] at hb
          omega
        · by_cases q3 : S.2 117 e < (i : Int)
          · rw [if_pos ⟨q, by omega⟩, if_pos ⟨q, q3⟩]
          · rw [if_neg (by first | decide | omega), if_neg (fun z => q3 z.2)]
      · rw [if_neg (fun z => q z.1), if_neg (fun z => q z.1)])
    unfold rnk
    rw [h1]
    show _ - (if pin S.2 e0 y = true ∧ S.2 117 e0 < (i : Int) then (1 : Int) else 0) + (if pin S.2 e0 y = true ∧ S.2 117 e0 < ((i + 1 : Nat) : Int) then (1 : Int) else 0) = _
    rw [if_neg (show ¬ (pin S.2 e0 y = true ∧ S.2 117 e0 < (i : Int)) by omega)]
    by_cases q : pin S.2 e0 y = true
    · rw [if_pos ⟨q, by omega⟩, if_pos q]
      omega
    · rw [if_neg (fun z => q z.1), if_neg q]
      omega
/-- a claim paid in y, by its turn -/
theorem turn_of (gk : GK S) {y : Int} {c : Nat} (hc : (c : Int) < S.2 72 52) (hp : pin S.2 c y = true) : ∃ t : Nat, S.2 117 c = t ∧ (t : Int) < S.2 72 53 ∧ S.2 45 t = c ∧ rnk S.2 y (S.2 117 c) (nClaims S.2) = pR S.2 y t ∧ pR S.2 y (t + 1) = pR S.2 y t + 1 := by
  have hd : S.2 115 c ≠ -1 := by
    unfold pin at hp
    simp only [decide_eq_true_eq] at hp
    exact hp.1
  have hr := (gk.1.2.2.2.1 c hc).2.2.2.2.2.2.1
  have hb := gk.2.2.2.2.2.2.2.1 c hc hd
  obtain ⟨t, ht⟩ := Int.eq_ofNat_of_zero_le (show 0 ≤ S.2 117 c by omega)
  rw [ht, Int.toNat_natCast] at hb
  refine ⟨t, ht, by omega, hb, ?_, ?_⟩
  · rw [ht]
    exact rnk_swap gk y t (by first | decide | omega)
  · have hu : pR S.2 y (t + 1) = pR S.2 y t + if pin S.2 (S.2 45 t).toNat y = true then 1 else 0 := rfl
    rw [hu, hb, Int.toNat_natCast, if_pos hp]
theorem turn_one (gk : GK S) {y : Int} {c e : Nat} (hc : (c : Int) < S.2 72 52) (he : (e : Int) < S.2 72 52) (hp : pin S.2 c y = true) (hq : pin S.2 e y = true) (h : rnk S.2 y (S.2 117 c) (nClaims S.2) = rnk S.2 y (S.2 117 e) (nClaims S.2)) : c = e := by
  obtain ⟨t, t1, t2, t3, t4, t5⟩ := turn_of gk hc hp
  obtain ⟨u, u1, u2, u3, u4, u5⟩ := turn_of gk he hq
  rw [t4, u4] at h
  rcases Nat.lt_trichotomy t u with q | q | q
  · have := pR_mono (h := S.2) (y := y) (i := t + 1) (u - (t + 1))
    rw [show t + 1 + (u - (t + 1)) = u by omega] at this
    omega
  · subst q
    omega
  · have := pR_mono (h := S.2) (y := y) (i := u + 1) (t - (u + 1))
    rw [show u + 1 + (t - (u + 1)) = t by omega] at this
    omega
theorem m_rnk (gk : GK S) {y k : Int} {c : Nat} (hc : (c : Int) < S.2 72 52) : ∀ (m e : Nat), e + m = nClaims S.2 → LQ (WK L xs) (ev (WK L xs) (d + 1)) 314 28 [some (vr 72), some (vi y), some (vi k), some (vi (c : Int)), some (vi (rnk S.2 y (S.2 117 c) e)), some (vi (e : Int))] [] S = (if rnk S.2 y (S.2 117 c) (nClaims S.2) = k then some ((c : Int), S) else LQ (WK L xs) (ev (WK L xs) (d + 1)) 314 2 [some (vr 72), some (vi y), some (vi k), some (vi ((c + 1 : Nat) : Int)), none, none] [] S) := by
  obtain ⟨hn, hn3⟩ := nC gk
  have hq : (0 : Int) ≤ (c : Int) ∧ (c : Int) < 300 := by omega
  have e2 : (c : Int) + 1 = ((c + 1 : Nat) : Int) := by omega
  intro m
  induction m with
  | zero =>
    intro e he
    rw [q_314_28, hn, if_neg (by first | decide | omega), show e = nClaims S.2 by omega, w32e (x := (c : Int) + 1) (by first | decide | omega) (by first | decide | omega), e2]
  | succ m ih =>
    intro e he
    have e1 : (e : Int) + 1 = ((e + 1 : Nat) : Int) := by omega
    have hi := ih (e + 1) (by first | decide | omega)
    have hu : rnk S.2 y (S.2 117 c) (e + 1) = rnk S.2 y (S.2 117 c) e + if pin S.2 e y = true ∧ S.2 117 e < S.2 117 c then 1 else 0 := rfl
    have hb : 0 ≤ rnk S.2 y (S.2 117 c) e ∧ rnk S.2 y (S.2 117 c) e ≤ e * 1 := sm_bd (fun j _ => by split <;> omega)
    have hqe : (0 : Int) ≤ (e : Int) ∧ (e : Int) < 300 := by omega
    rw [q_314_28, hn, if_pos (by first | decide | omega), m_paidIn (by first | decide | omega), bR, if_pos hqe, if_pos hq, Int.toNat_natCast, Int.toNat_natCast, w32e (x := (e : Int) + 1) (by first | decide | omega) (by first | decide | omega), e1, w32e (x := rnk S.2 y (S.2 117 c) e + 1) (by first | decide | omega) (by first | decide | omega), w32e (x := rnk S.2 y (S.2 117 c) e + 0) (by first | decide | omega) (by first | decide | omega)]
    simp only [bi_0]
    by_cases q1 : pin S.2 e y = true
    · rw [if_neg (fun z => z q1)]
      by_cases q2 : S.2 117 e < S.2 117 c
      · rw [if_pos ⟨q1, q2⟩] at hu
        rw [if_pos q2, ← hu]
        exact hi
      · rw [if_neg (fun z => q2 z.2)] at hu
        rw [if_neg q2, ← hu]
        exact hi
    · rw [if_neg (fun z => q1 z.1)] at hu
      rw [if_pos q1, ← hu]
      exact hi
theorem m_nth1 (gk : GK S) {y : Int} {c0 : Nat} (hc : (c0 : Int) < S.2 72 52) (hp : pin S.2 c0 y = true) : ev (WK L xs) (d + 2) 314 [vr 72, vi y, vi (rnk S.2 y (S.2 117 c0) (nClaims S.2))] S = some ((c0 : Int), S) := by
  obtain ⟨hn, hn3⟩ := nC gk
  have key : ∀ (m c : Nat), c + m = c0 → LQ (WK L xs) (ev (WK L xs) (d + 1)) 314 2 [some (vr 72), some (vi y), some (vi (rnk S.2 y (S.2 117 c0) (nClaims S.2))), some (vi (c : Int)), none, none] [] S = some ((c0 : Int), S) := by
    intro m
    induction m with
    | zero =>
      intro c hcm
      have e : c = c0 := by omega
      subst e
      have hr := m_rnk (L := L) (xs := xs) (d := d) gk (y := y) (k := rnk S.2 y (S.2 117 c) (nClaims S.2)) hc (nClaims S.2) 0 (by first | decide | omega)
      rw [if_pos rfl] at hr
      rw [q_314_2, if_pos hc, m_paidIn (by first | decide | omega), bR]
      simp only [bi_0]
      rw [if_neg (fun z => z hp)]
      exact hr
    | succ m ih =>
      intro c hcm
      have e1 : (c : Int) + 1 = ((c + 1 : Nat) : Int) := by omega
      have hcl : (c : Int) < S.2 72 52 := by omega
      rw [q_314_2, if_pos hcl, m_paidIn (by first | decide | omega), bR, w32e (by first | decide | omega) (by first | decide | omega), e1, ih (c + 1) (by first | decide | omega)]
      simp only [bi_0]
      by_cases q1 : pin S.2 c y = true
      · have hr := m_rnk (L := L) (xs := xs) (d := d) gk (y := y) (k := rnk S.2 y (S.2 117 c0) (nClaims S.2)) hcl (nClaims S.2) 0 (by first | decide | omega)
        rw [if_neg (fun z => by have := turn_one gk hcl hc q1 hp z; omega), ih (c + 1) (by first | decide | omega)] at hr
        rw [if_neg (fun z => z q1)]
        exact hr
      · rw [if_pos q1]
  rw [q_314]
  exact key c0 0 (by first | decide | omega)
theorem m_nth0 (gk : GK S) {y k : Int} (hk : pR S.2 y (S.2 72 53).toNat ≤ k) : ev (WK L xs) (d + 2) 314 [vr 72, vi y, vi k] S = some (-1, S) := by
  obtain ⟨hn, hn3⟩ := nC gk
  have key : ∀ (m c : Nat), c + m = nClaims S.2 → LQ (WK L xs) (ev (WK L xs) (d + 1)) 314 2 [some (vr 72), some (vi y), some (vi k), some (vi (c : Int)), none, none] [] S = some (-1, S) := by
    intro m
    induction m with
    | zero =>
      intro c hcm
      rw [q_314_2, hn, if_neg (by first | decide | omega)]
    | succ m ih =>
      intro c hcm
      have e1 : (c : Int) + 1 = ((c + 1 : Nat) : Int) := by omega
      have hcl : (c : Int) < S.2 72 52 := by omega
      rw [q_314_2, if_pos hcl, m_paidIn (by first | decide | omega), bR, w32e (by first | decide | omega) (by first | decide | omega), e1, ih (c + 1) (by first | decide | omega)]
      simp only [bi_0]
      by_cases q1 : pin S.2 c y = true
      · have hr := m_rnk (L := L) (xs := xs) (d := d) gk (y := y) (k := k) hcl (nClaims S.2) 0 (by first | decide | omega)
        obtain ⟨t, t1, t2, t3, t4, t5⟩ := turn_of gk hcl q1
        have hm := pR_mono (h := S.2) (y := y) (i := t + 1) ((S.2 72 53).toNat - (t + 1))
        rw [show t + 1 + ((S.2 72 53).toNat - (t + 1)) = (S.2 72 53).toNat by omega] at hm
        rw [if_neg (fun z => by rw [t4] at z; omega), ih (c + 1) (by first | decide | omega)] at hr
        rw [if_neg (fun z => z q1)]
        exact hr
      · rw [if_pos q1]
  rw [q_314]
  exact key (nClaims S.2) 0 (by first | decide | omega)
end
