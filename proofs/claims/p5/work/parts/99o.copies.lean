/-! close: the reference makes a carry -/
noncomputable def cpC (s t : Nat) (h : Nat → Nat → Int) (a j : Nat) : Int :=
  if a = 78 then (if j = t then h 78 s else h 78 j)
  else if 79 ≤ a ∧ a ≤ 83 then (if 16 * t ≤ j ∧ j < 16 * t + 16 then h a (16 * s + (j - 16 * t)) else h a j)
  else if 84 ≤ a ∧ a ≤ 85 then (if 200 * t ≤ j ∧ j < 200 * t + 200 then h a (200 * s + (j - 200 * t)) else h a j)
  else h a j
noncomputable def CP1 (W T : AH) (s t k : Nat) : Prop := T.1 = W.1 ∧ (∀ a, a < 79 ∨ 83 < a → T.2 a = W.2 a) ∧ ∀ a i, 79 ≤ a → a ≤ 83 → T.2 a i = if 16 * t ≤ i ∧ i < 16 * t + k then W.2 a (16 * s + (i - 16 * t)) else W.2 a i
noncomputable def CP2 (W T : AH) (s t k : Nat) : Prop := T.1 = W.1 ∧ (∀ a, a < 84 ∨ 85 < a → T.2 a = W.2 a) ∧ ∀ a i, 84 ≤ a → a ≤ 85 → T.2 a i = if 200 * t ≤ i ∧ i < 200 * t + k then W.2 a (200 * s + (i - 200 * t)) else W.2 a i
/-- the new authority, cell by cell -/
noncomputable def auH (n : Nat) (hd s y td : Int) (h : Nat → Nat → Int) (a j : Nat) : Int :=
  if a = 72 ∧ j = 40 then (n : Int) + 1 else if a = 78 ∧ j = 20 + n then 0
  else if (97 ≤ a ∧ a ≤ 104) ∧ j = n then (if a = 97 then 2 else if a = 98 then hd else if a = 99 then s else if a = 100 then y else if a = 104 then td else -1)
  else h a j
noncomputable def adH (n v : Nat) (hd s y td : Int) (h : Nat → Nat → Int) : Nat → Nat → Int := cpC (20 + v) (20 + n) (auH n hd s y td h)
section
variable {L : Nat} {xs : Nat → Int} {d : Nat} {S S' T U W A : AH} {h h' : Nat → Nat → Int}
theorem w200t {tt j : Nat} (ht : tt < 100) (hj : j ≤ 200) : w32 (w32 (200 * (tt : Int)) + (j : Int)) = ((200 * tt + j : Nat) : Int) := by
  rw [w32e (x := 200 * (tt : Int)) (by first | decide | omega) (by first | decide | omega), w32e (by first | decide | omega) (by first | decide | omega)]
  omega
theorem m_cp1 {s t : Nat} (hs : s < 100) (ht : t < 100) (hst : s ≠ t) : ∀ (m j : Nat) (T : AH), j + m = 16 → CP1 W T s t j → ∃ T', LQ (WK L xs) (ev (WK L xs) d) 312 14 [some (vr 72), some (vi (s : Int)), some (vi (t : Int)), some (vi (j : Int))] [] T = LQ (WK L xs) (ev (WK L xs) d) 312 138 [some (vr 72), some (vi (s : Int)), some (vi (t : Int)), some (vi 0)] [] T' ∧ CP1 W T' s t 16 := by
  intro m
  induction m with
  | zero =>
    intro j T hj hT
    have e : j = 16 := by omega
    subst e
    refine ⟨T, ?_, hT⟩
    rw [q_312_14, if_neg (by decide)]
  | succ m ih =>
    intro j T hj hT
    have q1 : (0 : Int) ≤ ((16 * s + j : Nat) : Int) ∧ ((16 * s + j : Nat) : Int) < 1600 := by omega
    have q2 : (0 : Int) ≤ ((16 * t + j : Nat) : Int) ∧ ((16 * t + j : Nat) : Int) < 1600 := by omega
    have go := q_312_14 L xs d T (s : Int) (t : Int) (j : Int)
    rw [if_pos (by first | decide | omega), w16t hs (by first | decide | omega), w16t ht (by first | decide | omega), wj (by first | decide | omega)] at go
    simp only [if_pos q1, if_pos q2, Int.toNat_natCast] at go
    generalize hX : wr (wr (wr (wr (wr T 79 (16 * t + j) (T.2 79 (16 * s + j))) 80 (16 * t + j) (T.2 80 (16 * s + j))) 81 (16 * t + j) (T.2 81 (16 * s + j))) 82 (16 * t + j) (T.2 82 (16 * s + j))) 83 (16 * t + j) (T.2 83 (16 * s + j)) = X at go
    have hC : CP1 W X s t (j + 1) := by
      refine ⟨by rw [← hX]; exact hT.1, fun a q => ?_, fun a i h1 h2 => ?_⟩
      · rw [← hX, wr_c (by first | decide | omega), wr_c (by first | decide | omega), wr_c (by first | decide | omega), wr_c (by first | decide | omega), wr_c (by first | decide | omega), hT.2.1 a q]
      · have e : X.2 a i = if i = 16 * t + j then T.2 a (16 * s + j) else T.2 a i := by
          rw [← hX]
          have : a = 79 ∨ a = 80 ∨ a = 81 ∨ a = 82 ∨ a = 83 := by omega
          rcases this with rfl | rfl | rfl | rfl | rfl <;> simp [wr_2]
        rw [e, hT.2.2 a _ h1 h2, hT.2.2 a i h1 h2]
        by_cases c1 : i = 16 * t + j
        · rw [if_pos c1, if_neg (by first | decide | omega), if_pos (by first | decide | omega), show i - 16 * t = j by omega]
        · rw [if_neg c1]
          by_cases c2 : 16 * t ≤ i ∧ i < 16 * t + j
          · rw [if_pos c2, if_pos (by first | decide | omega)]
          · rw [if_neg c2, if_neg (by first | decide | omega)]
    obtain ⟨T', t1, t2⟩ := ih (j + 1) X (by first | decide | omega) hC
    exact ⟨T', go.trans t1, t2⟩
theorem m_cp2 {s t : Nat} (hs : s < 100) (ht : t < 100) (hst : s ≠ t) : ∀ (m j : Nat) (T : AH), j + m = 200 → CP2 W T s t j → ∃ T', LQ (WK L xs) (ev (WK L xs) d) 312 138 [some (vr 72), some (vi (s : Int)), some (vi (t : Int)), some (vi (j : Int))] [] T = some (0, T') ∧ CP2 W T' s t 200 := by
  intro m
  induction m with
  | zero =>
    intro j T hj hT
    have e : j = 200 := by omega
    subst e
    refine ⟨T, ?_, hT⟩
    rw [q_312_138, if_neg (by decide)]
  | succ m ih =>
    intro j T hj hT
    have q1 : (0 : Int) ≤ ((200 * s + j : Nat) : Int) ∧ ((200 * s + j : Nat) : Int) < 20000 := by omega
    have q2 : (0 : Int) ≤ ((200 * t + j : Nat) : Int) ∧ ((200 * t + j : Nat) : Int) < 20000 := by omega
    have go := q_312_138 L xs d T (s : Int) (t : Int) (j : Int)
    rw [if_pos (by first | decide | omega), w200t hs (by first | decide | omega), w200t ht (by first | decide | omega), wj (by first | decide | omega)] at go
    simp only [if_pos q1, if_pos q2, Int.toNat_natCast] at go
    generalize hX : wr (wr T 84 (200 * t + j) (T.2 84 (200 * s + j))) 85 (200 * t + j) (T.2 85 (200 * s + j)) = X at go
    have hC : CP2 W X s t (j + 1) := by
      refine ⟨by rw [← hX]; exact hT.1, fun a q => ?_, fun a i h1 h2 => ?_⟩
      · rw [← hX, wr_c (by first | decide | omega), wr_c (by first | decide | omega), hT.2.1 a q]
      · have e : X.2 a i = if i = 200 * t + j then T.2 a (200 * s + j) else T.2 a i := by
          rw [← hX]
          have : a = 84 ∨ a = 85 := by omega
          rcases this with rfl | rfl <;> simp [wr_2]
        rw [e, hT.2.2 a _ h1 h2, hT.2.2 a i h1 h2]
        by_cases c1 : i = 200 * t + j
        · rw [if_pos c1, if_neg (by first | decide | omega), if_pos (by first | decide | omega), show i - 200 * t = j by omega]
        · rw [if_neg c1]
          by_cases c2 : 200 * t ≤ i ∧ i < 200 * t + j
          · rw [if_pos c2, if_pos (by first | decide | omega)]
          · rw [if_neg c2, if_neg (by first | decide | omega)]
    obtain ⟨T', t1, t2⟩ := ih (j + 1) X (by first | decide | omega) hC
    exact ⟨T', go.trans t1, t2⟩
theorem m_copies {s t : Nat} (hs : s < 100) (ht : t < 100) (hst : s ≠ t) : ∃ U, ev (WK L xs) (d + 1) 312 [vr 72, vi (s : Int), vi (t : Int)] W = some (0, U) ∧ U.1 = W.1 ∧ ∀ a j, U.2 a j = cpC s t W.2 a j := by
  generalize hA : wr W 78 t (W.2 78 s) = A
  have A1 : A.1 = W.1 := by rw [← hA]; rfl
  have A78 : ∀ j, A.2 78 j = if j = t then W.2 78 s else W.2 78 j := fun j => by rw [← hA, wr_f]
  have Ac : ∀ a, a ≠ 78 → A.2 a = W.2 a := fun a q => by rw [← hA, wr_c q]
  obtain ⟨B, b1, b2⟩ := m_cp1 (L := L) (xs := xs) (d := d) (W := A) hs ht hst 16 0 A (by first | decide | omega) ⟨rfl, fun _ _ => rfl, fun a i _ _ => by rw [if_neg (by first | decide | omega)]⟩
  obtain ⟨U, u1, u2⟩ := m_cp2 (L := L) (xs := xs) (d := d) (W := B) hs ht hst 200 0 B (by first | decide | omega) ⟨rfl, fun _ _ => rfl, fun a i _ _ => by rw [if_neg (by first | decide | omega)]⟩
  refine ⟨U, ?_, u2.1.trans (b2.1.trans A1), fun a j => ?_⟩
  · rw [q_312, if_pos (by first | decide | omega), if_pos (by first | decide | omega), Int.toNat_natCast, Int.toNat_natCast, hA]
    exact b1.trans u1
  · unfold cpC
    by_cases c1 : a = 78
    · subst c1
      rw [if_pos rfl, u2.2.1 78 (by first | decide | omega), b2.2.1 78 (by first | decide | omega), A78]
    rw [if_neg c1]
    by_cases c2 : 79 ≤ a ∧ a ≤ 83
    · rw [if_pos c2, u2.2.1 a (by first | decide | omega), b2.2.2 a j c2.1 c2.2, Ac a c1]
    rw [if_neg c2]
    by_cases c3 : 84 ≤ a ∧ a ≤ 85
    · rw [if_pos c3, u2.2.2 a j c3.1 c3.2, b2.2.1 a (by first | decide | omega), Ac a c1]
    · rw [if_neg c3, u2.2.1 a (by first | decide | omega), b2.2.1 a (by first | decide | omega), Ac a c1]
theorem m_mkC {n v : Nat} (hn : W.2 72 40 = n) (hn80 : n < 80) (hv : v < n) (hd s y : Int) : ∃ U, (∀ F : Int → AH → Rs, bindR (ev (WK L xs) (d + 1) 239 [vr 72, vi 2, vi hd, vi s, vi y] W) (fun r1 S2 => bindR (ev (WK L xs) (d + 1) 312 [vr 72, vi (w32 ((20 : Int) + (v : Int))), vi (w32 ((20 : Int) + r1))] S2) F) = F 0 U) ∧ U.1 = W.1 ∧ ∀ a j, U.2 a j = adH n v hd s y (W.2 72 2) W.2 a j := by
  obtain ⟨A, a1, a2, a3, a4, a5, a6, a7, a8, a9, a10, a11, a12, a13, a14, a15⟩ := m_addAu (L := L) (xs := xs) (d := d) hn hn80 2 hd s y
  obtain ⟨U, u1, u2, u3⟩ := m_copies (L := L) (xs := xs) (d := d) (W := A) (s := 20 + v) (t := 20 + n) (by first | decide | omega) (by first | decide | omega) (by first | decide | omega)
  refine ⟨U, fun F => ?_, u2.trans a2, fun a j => ?_⟩
  · rw [a1, bR, w20v (v := v) (n := 80) (by first | decide | omega) (by first | decide | omega), w20v (v := n) (n := 80) (by first | decide | omega) (by first | decide | omega), u1, bR]
  · rw [u3]
    unfold adH
    have e : A.2 = auH n hd s y (W.2 72 2) W.2 := by
      funext a j
      unfold auH
      by_cases c1 : a = 72
      · subst c1
        by_cases c2 : j = 40
        · subst c2
          rw [a5, if_pos ⟨rfl, rfl⟩]
        · rw [a4 j c2, if_neg (fun z => c2 z.2), if_neg (by first | decide | omega), if_neg (by first | decide | omega)]
      rw [if_neg (fun z => c1 z.1)]
      by_cases c3 : a = 78
      · subst c3
        rw [a6 j]
        by_cases c4 : j = 20 + n
        · rw [if_pos c4, if_pos ⟨rfl, c4⟩]
        · rw [if_neg c4, if_neg (fun z => c4 z.2), if_neg (by first | decide | omega)]
      rw [if_neg (fun z => c3 z.1)]
      by_cases c5 : 97 ≤ a ∧ a ≤ 104
      · by_cases c6 : j = n
        · subst c6
          rw [if_pos ⟨c5, rfl⟩]
          have : a = 97 ∨ a = 98 ∨ a = 99 ∨ a = 100 ∨ a = 101 ∨ a = 102 ∨ a = 103 ∨ a = 104 := by omega
          rcases this with rfl | rfl | rfl | rfl | rfl | rfl | rfl | rfl
          · rw [a8]
            rfl
          · rw [a9]
            rfl
          · rw [a10]
            rfl
          · rw [a11]
            rfl
          · rw [a12]
            rfl
          · rw [a13]
            rfl
          · rw [a14]
            rfl
          · rw [a15]
            rfl
        · rw [a7 a j c5.1 c5.2 c6, if_neg (fun z => c6 z.2)]
      · rw [a3 a c1 c3 c5, if_neg (fun z => c5 z.1)]
    rw [e]
/-- each cell comes from itself -/
theorem adH_cg {n v : Nat} {hd s y td : Int} {a : Nat} (e : h' a = h a) (j : Nat) : adH n v hd s y td h' a j = adH n v hd s y td h a j := by
  have e1 : ∀ i, auH n hd s y td h' a i = auH n hd s y td h a i := fun i => by
    unfold auH
    rw [e]
  unfold adH cpC
  by_cases c1 : a = 78
  · subst c1
    rw [if_pos rfl, if_pos rfl, e1, e1]
  · rw [if_neg c1, if_neg c1, e1, e1, e1]
theorem adH_o {n v : Nat} {hd s y td : Int} {a : Nat} (h1 : a ≠ 72) (h2 : ¬ (78 ≤ a ∧ a ≤ 85)) (h3 : ¬ (97 ≤ a ∧ a ≤ 104)) (j : Nat) : adH n v hd s y td h a j = h a j := by
  unfold adH cpC auH
  rw [if_neg (by first | decide | omega), if_neg (by first | decide | omega), if_neg (by first | decide | omega), if_neg (by first | decide | omega), if_neg (by first | decide | omega), if_neg (by first | decide | omega)]
theorem adH_72 {n v : Nat} {hd s y td : Int} (j : Nat) : adH n v hd s y td h 72 j = if j = 40 then (n : Int) + 1 else h 72 j := by
  unfold adH cpC auH
  rw [if_neg (by decide), if_neg (by decide), if_neg (by decide)]
  by_cases c : j = 40
  · rw [if_pos c, if_pos ⟨rfl, c⟩]
  · rw [if_neg c, if_neg (fun z => c z.2), if_neg (by first | decide | omega), if_neg (by first | decide | omega)]
theorem adH_au {n v : Nat} {hd s y td : Int} {a : Nat} (h3 : 97 ≤ a ∧ a ≤ 104) (j : Nat) : adH n v hd s y td h a j = if j = n then (if a = 97 then 2 else if a = 98 then hd else if a = 99 then s else if a = 100 then y else if a = 104 then td else -1) else h a j := by
  unfold adH cpC auH
  rw [if_neg (show ¬ a = 78 by omega), if_neg (show ¬ (79 ≤ a ∧ a ≤ 83) by omega), if_neg (show ¬ (84 ≤ a ∧ a ≤ 85) by omega), if_neg (show ¬ (a = 72 ∧ j = 40) by omega), if_neg (show ¬ (a = 78 ∧ j = 20 + n) by omega)]
  by_cases c : j = n
  · rw [if_pos c, if_pos ⟨h3, c⟩]
  · rw [if_neg c, if_neg (fun z => c z.2)]
/-- the texts behind -/
theorem adH_tx {n v : Nat} {hd s y td : Int} {t : Nat} {x : TXT} (ht : t ≠ 20 + n) (H : RX h t x) : RX (adH n v hd s y td h) t x := by
  refine H.fr ?_ (fun j hj => ?_) (fun i hi => ?_)
  · unfold adH cpC auH
    rw [if_pos rfl, if_neg ht, if_neg (by first | decide | omega), if_neg (fun z => ht z.2), if_neg (by first | decide | omega)]
  · have k : ∀ a, 79 ≤ a → a ≤ 83 → adH n v hd s y td h a (16 * t + j) = h a (16 * t + j) := fun a q1 q2 => by
      unfold adH cpC auH
      rw [if_neg (by first | decide | omega), if_pos (show 79 ≤ a ∧ a ≤ 83 from ⟨q1, q2⟩), if_neg (by first | decide | omega), if_neg (by first | decide | omega), if_neg (by first | decide | omega), if_neg (by first | decide | omega)]
    exact ⟨k 79 (by decide) (by decide), k 80 (by decide) (by decide), k 81 (by decide) (by decide), k 82 (by decide) (by decide), k 83 (by decide) (by decide)⟩
  · have k : ∀ a, 84 ≤ a → a ≤ 85 → adH n v hd s y td h a (200 * t + i) = h a (200 * t + i) := fun a q1 q2 => by
      unfold adH cpC auH
      rw [if_neg (by first | decide | omega), if_neg (show ¬ (79 ≤ a ∧ a ≤ 83) by omega), if_pos (show 84 ≤ a ∧ a ≤ 85 from ⟨q1, q2⟩), if_neg (by first | decide | omega), if_neg (by first | decide | omega), if_neg (by first | decide | omega), if_neg (by first | decide | omega)]
    exact ⟨k 84 (by decide) (by decide), k 85 (by decide) (by decide)⟩
theorem adH_new {n v : Nat} {hd s y td : Int} {x : TXT} (hv : v < n) (H : RX h (20 + v) x) : RX (adH n v hd s y td h) (20 + n) x := by
  obtain ⟨b1, b2, b3, b4, b5⟩ := H
  have k78 : adH n v hd s y td h 78 (20 + n) = h 78 (20 + v) := by
    unfold adH cpC auH
    rw [if_pos rfl, if_pos rfl, if_neg (by first | decide | omega), if_neg (by first | decide | omega), if_neg (by first | decide | omega)]
  have k79 : ∀ a j, 79 ≤ a → a ≤ 83 → j < 16 → adH n v hd s y td h a (16 * (20 + n) + j) = h a (16 * (20 + v) + j) := fun a j q1 q2 q3 => by
    unfold adH cpC auH
    rw [if_neg (by first | decide | omega), if_pos (show 79 ≤ a ∧ a ≤ 83 from ⟨q1, q2⟩), if_pos (by first | decide | omega), if_neg (by first | decide | omega), if_neg (by first | decide | omega), if_neg (by first | decide | omega), show 16 * (20 + n) + j - 16 * (20 + n) = j by omega]
  have k84 : ∀ a i, 84 ≤ a → a ≤ 85 → i < 200 → adH n v hd s y td h a (200 * (20 + n) + i) = h a (200 * (20 + v) + i) := fun a i q1 q2 q3 => by
    unfold adH cpC auH
    rw [if_neg (by first | decide | omega), if_neg (show ¬ (79 ≤ a ∧ a ≤ 83) by omega), if_pos (show 84 ≤ a ∧ a ≤ 85 from ⟨q1, q2⟩), if_pos (by first | decide | omega), if_neg (by first | decide | omega), if_neg (by first | decide | omega), if_neg (by first | decide | omega), show 200 * (20 + n) + i - 200 * (20 + n) = i by omega]
  refine ⟨k78.trans b1, b2, fun j q hq => ?_, b4, fun i q hq => ?_⟩
  · have hj : j < 16 := Nat.lt_of_lt_of_le (List.getElem?_eq_some_iff.mp hq).1 b2
    rw [k79 79 j (by decide) (by decide) hj, k79 80 j (by decide) (by decide) hj, k79 81 j (by decide) (by decide) hj, k79 82 j (by decide) (by decide) hj, k79 83 j (by decide) (by decide) hj]
    exact b3 j q hq
  · have hi : i < 200 := Nat.lt_of_lt_of_le (List.getElem?_eq_some_iff.mp hq).1 b4
    rw [k84 84 i (by decide) (by decide) hi, k84 85 i (by decide) (by decide) hi]
    exact b5 i q hq
end
