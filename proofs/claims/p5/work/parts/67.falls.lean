/-! falls -/
section
variable {L : Nat} {xs : Nat → Int} {d : Nat} {S T U S' : AH}
theorem nmC_bd (gl : GL S) {f : Nat → Bool} {day lt : Int} {i : Nat} (hi : (i : Int) < S.2 72 36) {v : Int} : ∀ j : Nat, (j : Int) ≤ S.2 78 i → nmC S.2 f day lt i j = some v → 0 ≤ v ∧ v ≤ 999999 := by
  intro j
  induction j with
  | zero => intro _ h; cases h
  | succ j ih =>
    intro hj h
    simp only [nmC] at h
    by_cases q : S.2 79 (16 * i + j) = lt ∧ inF S.2 day i = true ∧ f (16 * i + j) = false
    · rw [if_pos q] at h
      have hv := Option.some.inj h
      have := ((gl.2.2.2 i hi).2.2.cl (L := 0) (xs := fun _ => 0) (j := j) (by first | decide | omega)).2.1
      rw [hv] at this
      exact this
    · rw [if_neg q] at h
      exact ih (by first | decide | omega) h
theorem nmb_bd (gl : GL S) {k : Nat} (hk : k < 5) (day : Int) : 0 ≤ nmb S.2 k day ∧ nmb S.2 k day ≤ 999999 := by
  have key : ∀ i : Nat, (i : Int) ≤ S.2 72 36 → 0 ≤ nmL S.2 (skd S.2 day) day (nlet k) (ndef k) i ∧ nmL S.2 (skd S.2 day) day (nlet k) (ndef k) i ≤ 999999 := by
    intro i
    induction i with
    | zero =>
      intro _
      simp only [nmL]
      have : k = 0 ∨ k = 1 ∨ k = 2 ∨ k = 3 ∨ k = 4 := by omega
      rcases this with rfl | rfl | rfl | rfl | rfl <;> decide
    | succ i ih =>
      intro hi
      simp only [nmL]
      have hcm := cm_bd (gl.2.2.2 i (by first | decide | omega)).2.2
      cases e : nmC S.2 (skd S.2 day) day (nlet k) i (S.2 78 i).toNat with
      | none => exact ih (by first | decide | omega)
      | some v => exact nmC_bd gl (by first | decide | omega) _ (by first | decide | omega) e
  have := gl.2
  exact key _ (by first | decide | omega)
/-- a hand's charge behind the claims ahead of c -/
noncomputable def cg (h : Nat → Nat → Int) (v : Int) (n : Nat) (b : Int) (j : Nat) : Nat → Int
  | 0 => b
  | c + 1 => if (h 116 c = v ∧ h 119 c = 0) ∧ j < n ∧ ((h 114 c).toNat ||| 2 ^ (h 108 c).toNat).testBit j = true then w64 (cg h v n b j c + chv ((h 114 c).toNat ||| 2 ^ (h 108 c).toNat) (h 111 c) j) else cg h v n b j c
noncomputable def fsm (h : Nat → Nat → Int) (v : Int) : Nat → Int
  | 0 => 0
  | c + 1 => if h 116 c = v then w64 (fsm h v c + (if h 119 c = 0 then h 111 c else 0)) else fsm h v c
theorem x_flL (gk : GK S) (gp : GP S.2) {B : AH} {v : Int} {N n : Nat} (hN : S.2 72 52 = N) (hn : S.2 72 5 = n) (b1 : B.1 = S.1) (b2 : ∀ a, a = 17 ∨ a = 21 ∨ a = 43 ∨ a = 44 → B.2 a = S.2 a) (b3 : ∀ e, e < N → B.2 (clA S e) = S.2 (clA S e)) : ∀ (m c : Nat) (T : AH), c + m = N → T.1 = S.1 → (∀ a, a ≠ 21 → (∀ e, e < N → a ≠ clA S e) → T.2 a = B.2 a) → (∀ e, e < N → ∀ k, T.2 (clA S e) k = if k = 11 ∧ e < c ∧ S.2 116 e = v ∧ S.2 119 e = 0 then 1 else S.2 (clA S e) k) → (∀ j, T.2 21 j = cg S.2 v n (S.2 21 j) j c) →
    ∃ T', LQ (WK L xs) (ev (WK L xs) (d + 2)) 57 50 [some (vr 15), some (vi v), none, some (vl (fsm S.2 v c)), none, some (vi (c : Int)), none] [] T = some (fsm S.2 v N, T') ∧ T'.1 = S.1 ∧ (∀ a, a ≠ 21 → (∀ e, e < N → a ≠ clA S e) → T'.2 a = B.2 a) ∧ (∀ e, e < N → ∀ k, T'.2 (clA S e) k = if k = 11 ∧ S.2 116 e = v ∧ S.2 119 e = 0 then 1 else S.2 (clA S e) k) ∧ ∀ j, T'.2 21 j = cg S.2 v n (S.2 21 j) j N := by
  have hn3 := gk.n
  obtain ⟨-, ⟨hh1, hh2⟩, -, -⟩ := gp.1
  have hob : ∀ e, e < N → isO S (clA S e) 12 15 := fun e he => gk.ob (by first | decide | omega)
  intro m
  induction m with
  | zero =>
    intro c T hc t1 t2 t3 t4
    have e : c = N := by omega
    subst e
    have h43 : T.2 43 = S.2 43 := by rw [t2 43 (by decide) (fun e he z => by have := (hob e he).1; omega), b2 43 (by first | decide | omega)]
    refine ⟨T, ?_, t1, t2, fun e he k => ?_, t4⟩
    · rw [q_57_50, h43, gk.2.1, hN, if_neg (by first | decide | omega)]
    · rw [t3 e he k]
      simp only [he, true_and]
  | succ m ih =>
    intro c T hc t1 t2 t3 t4
    have hcN : c < N := by omega
    have lo : ∀ a, a < 151 → ∀ e, e < N → a ≠ clA S e := fun a ha e he z => by have := (hob e he).1; omega
    have h43 : T.2 43 = S.2 43 := by rw [t2 43 (by decide) (lo 43 (by decide)), b2 43 (by first | decide | omega)]
    have h44 : T.2 44 = S.2 44 := by rw [t2 44 (by decide) (lo 44 (by decide)), b2 44 (by first | decide | omega)]
    have h17 : T.2 17 = S.2 17 := by rw [t2 17 (by decide) (lo 17 (by decide)), b2 17 (by first | decide | omega)]
    obtain ⟨a1, a2, a3, a4, a5, a6, a7, a8, a9, a10, a11, a12, a13, a14, a15, a16⟩ := gk.2.2.2.2.1 c (by first | decide | omega)
    obtain ⟨r1, r2, r3, r4, r5, r6, r7, r8, r9, r10, r11, r12, r13⟩ := gk.1.2.2.2.1 c (by first | decide | omega)
    have h5 := a1.1
    have hO : isO T (clA S c) 12 15 := a1.eq t1
    have e1 : (c : Int) + 1 = ((c + 1 : Nat) : Int) := by omega
    have tc : ∀ k, T.2 (clA S c) k = S.2 (clA S c) k := fun k => by rw [t3 c hcN k, if_neg (by first | decide | omega)]
    have x80 : ev (WK L xs) (d + 2) 80 [vr 43, vi (c : Int)] T = some ((clA S c : Int), T) := by
      rw [q_80, h43, gk.2.1, if_neg (by first | decide | omega), if_pos (by first | decide | omega), if_pos (by first | decide | omega), Int.toNat_natCast, h44]
      rfl
    rw [q_57_50, h43, gk.2.1, hN, if_pos (by first | decide | omega), x80, bR, Int.toNat_natCast, if_neg (by first | decide | omega), g14 hO, k12 hO, rdvD h5, tc 8, a10, w32e (by first | decide | omega) (by first | decide | omega), e1]
    by_cases hv : S.2 116 c = v
    · rw [if_pos hv]
      obtain ⟨s, hs⟩ := Int.eq_ofNat_of_zero_le r6.1
      obtain ⟨w, hw⟩ := Int.eq_ofNat_of_zero_le r1.1
      obtain ⟨T1, x1, x2, x3, x4, x5⟩ := x_charge (L := L) (xs := xs) (d := d) (T := T) (o := clA S c) hO (n := n) (s := s) (w := w) (by rw [tc 6, a8, hs]) (by first | decide | omega) (by rw [tc 0, a2, hw]) (by first | decide | omega) (by rw [h17, gp.2.2.1, hn]) (by first | decide | omega)
      rw [tc 11, a13] at x1 x4 x5
      rw [tc 3, a5] at x1 x5
      have hf : fsm S.2 v (c + 1) = w64 (fsm S.2 v c + (if S.2 119 c = 0 then S.2 111 c else 0)) := by simp only [fsm]; rw [if_pos hv]
      rw [x1, bR, ← hf]
      refine ih (c + 1) T1 (by first | decide | omega) (x2.trans t1) (fun a q1 q2 => by rw [x3 a q1 (q2 c hcN), t2 a q1 q2]) (fun e he k => ?_) (fun j => ?_)
      · by_cases ec : e = c
        · subst ec
          rw [x4 k, tc k]
          by_cases q : k = 11 ∧ S.2 119 e = 0
          · rw [if_pos q, if_pos ⟨q.1, by omega, hv, q.2⟩]
          · rw [if_neg q, if_neg (fun z => q ⟨z.1, z.2.2.2⟩)]
        · have hne : clA S e ≠ clA S c := fun z => ec (gk.2.2.2.2.2.1 e c (by first | decide | omega) (by first | decide | omega) z)
          rw [x3 _ (by have := (hob e he).1; omega) hne, t3 e he k]
          by_cases q : k = 11 ∧ e < c ∧ S.2 116 e = v ∧ S.2 119 e = 0
          · rw [if_pos q, if_pos ⟨q.1, by omega, q.2.2⟩]
          · rw [if_neg q, if_neg (fun z => q ⟨z.1, by omega, z.2.2⟩)]
      · rw [x5 j, t4 j]
        simp only [cg]
        have es : (S.2 114 c).toNat = s := by omega
        have ew : (S.2 108 c).toNat = w := by omega
        rw [es, ew]
        by_cases q : S.2 119 c = 0 ∧ j < n ∧ (s ||| 2 ^ w).testBit j = true
        · rw [if_pos q, if_pos ⟨⟨hv, q.1⟩, q.2⟩]
        · rw [if_neg q, if_neg (fun z => q ⟨z.1.2, z.2⟩)]
    · rw [if_neg hv]
      have hf : fsm S.2 v (c + 1) = fsm S.2 v c := by simp only [fsm]; rw [if_neg hv]
      rw [← hf]
      refine ih (c + 1) T (by first | decide | omega) t1 t2 (fun e he k => ?_) (fun j => ?_)
      · rw [t3 e he k]
        by_cases q : k = 11 ∧ e < c ∧ S.2 116 e = v ∧ S.2 119 e = 0
        · rw [if_pos q, if_pos ⟨q.1, by omega, q.2.2⟩]
        · rw [if_neg q, if_neg (fun z => q ⟨z.1, by
            by_cases ec : e = c
            · subst ec; exact absurd z.2.2.1 hv
            · omega, z.2.2⟩)]
      · rw [t4 j]
        simp only [cg]
        rw [if_neg (fun z => hv z.1.1)]
theorem m_flL (gk : GK S) (gp : GP S.2) {B : AH} {v : Int} {N n : Nat} (hN : S.2 72 52 = N) (hn : S.2 72 5 = n) (b1 : B.1 = S.1) (b2 : ∀ a, a = 72 ∨ a = 77 ∨ (108 ≤ a ∧ a ≤ 119) → B.2 a = S.2 a) : ∀ (m c : Nat) (T : AH), c + m = N → T.1 = S.1 → (∀ a, a ≠ 77 → a ≠ 119 → T.2 a = B.2 a) → (∀ e, T.2 119 e = if e < c ∧ S.2 116 e = v ∧ S.2 119 e = 0 then 1 else S.2 119 e) → (∀ j, T.2 77 j = cg S.2 v n (S.2 77 j) j c) →
    ∃ T', LQ (WK L xs) (ev (WK L xs) (d + 2)) 306 95 [some (vr 72), some (vi v), none, some (vl (fsm S.2 v c)), none, some (vi (c : Int))] [] T = some (fsm S.2 v N, T') ∧ T'.1 = S.1 ∧ (∀ a, a ≠ 77 → a ≠ 119 → T'.2 a = B.2 a) ∧ (∀ e, T'.2 119 e = if e < N ∧ S.2 116 e = v ∧ S.2 119 e = 0 then 1 else S.2 119 e) ∧ ∀ j, T'.2 77 j = cg S.2 v n (S.2 77 j) j N := by
  have hn3 := gk.n
  obtain ⟨-, ⟨hh1, hh2⟩, -, -⟩ := gp.1
  intro m
  induction m with
  | zero =>
    intro c T hc t1 t2 t3 t4
    have e : c = N := by omega
    subst e
    refine ⟨T, ?_, t1, t2, t3, t4⟩
    rw [q_306_95, t2 72 (by decide) (by decide), b2 72 (by first | decide | omega), hN, if_neg (by first | decide | omega)]
  | succ m ih =>
    intro c T hc t1 t2 t3 t4
    have hcN : c < N := by omega
    have u : ∀ a, a = 72 ∨ (108 ≤ a ∧ a ≤ 118) → T.2 a = S.2 a := fun a ha => by rw [t2 a (by first | decide | omega) (by first | decide | omega), b2 a (by first | decide | omega)]
    obtain ⟨r1, r2, r3, r4, r5, r6, r7, r8, r9, r10, r11, r12, r13⟩ := gk.1.2.2.2.1 c (by first | decide | omega)
    have e1 : (c : Int) + 1 = ((c + 1 : Nat) : Int) := by omega
    have tc : T.2 119 c = S.2 119 c := by rw [t3 c, if_neg (by first | decide | omega)]
    rw [q_306_95, u 72 (by first | decide | omega), hN, if_pos (by first | decide | omega), if_pos (by first | decide | omega), Int.toNat_natCast, u 116 (by first | decide | omega), w32e (by first | decide | omega) (by first | decide | omega), e1]
    by_cases hv : S.2 116 c = v
    · rw [if_pos hv]
      obtain ⟨s, hs⟩ := Int.eq_ofNat_of_zero_le r6.1
      obtain ⟨w, hw⟩ := Int.eq_ofNat_of_zero_le r1.1
      obtain ⟨T1, x1, x2, x3, x4, x5⟩ := m_charge (L := L) (xs := xs) (d := d) (T := T) (c := c) (by first | decide | omega) (n := n) (s := s) (w := w) (by rw [u 114 (by first | decide | omega), hs]) (by first | decide | omega) (by rw [u 108 (by first | decide | omega), hw]) (by first | decide | omega) (by rw [u 72 (by first | decide | omega), hn]) (by first | decide | omega)
      rw [tc, u 111 (by first | decide | omega)] at x1 x5
      rw [tc] at x4
      have hf : fsm S.2 v (c + 1) = w64 (fsm S.2 v c + (if S.2 119 c = 0 then S.2 111 c else 0)) := by simp only [fsm]; rw [if_pos hv]
      rw [x1, bR, ← hf]
      refine ih (c + 1) T1 (by first | decide | omega) (x2.trans t1) (fun a q1 q2 => by rw [x3 a q1 q2, t2 a q1 q2]) (fun e => ?_) (fun j => ?_)
      · rw [x4 e, t3 e]
        by_cases ec : e = c
        · subst ec
          by_cases q : S.2 119 e = 0
          · rw [if_pos ⟨rfl, q⟩, if_pos ⟨by omega, hv, q⟩]
          · rw [if_neg (fun z => q z.2), if_neg (by first | decide | omega), if_neg (fun z => q z.2.2)]
        · rw [if_neg (fun z => ec z.1)]
          by_cases q : e < c ∧ S.2 116 e = v ∧ S.2 119 e = 0
          · rw [if_pos q, if_pos ⟨by omega, q.2⟩]
          · rw [if_neg q, if_neg (fun z => q ⟨by omega, z.2⟩)]
      · rw [x5 j, t4 j]
        simp only [cg]
        have es : (S.2 114 c).toNat = s := by omega
        have ew : (S.2 108 c).toNat = w := by omega
        rw [es, ew]
        by_cases q : S.2 119 c = 0 ∧ j < n ∧ (s ||| 2 ^ w).testBit j = true
        · rw [if_pos q, if_pos ⟨⟨hv, q.1⟩, q.2⟩]
        · rw [if_neg q, if_neg (fun z => q ⟨z.1.2, z.2⟩)]
    · rw [if_neg hv]
      have hf : fsm S.2 v (c + 1) = fsm S.2 v c := by simp only [fsm]; rw [if_neg hv]
      rw [← hf]
      refine ih (c + 1) T (by first | decide | omega) t1 t2 (fun e => ?_) (fun j => ?_)
      · rw [t3 e]
        by_cases q : e < c ∧ S.2 116 e = v ∧ S.2 119 e = 0
        · rw [if_pos q, if_pos ⟨by omega, q.2⟩]
        · rw [if_neg q, if_neg (fun z => q ⟨by
            by_cases ec : e = c
            · subst ec; exact absurd z.2.1 hv
            · omega, z.2⟩)]
      · rw [t4 j]
        simp only [cg]
        rw [if_neg (fun z => hv z.1.1)]
end
