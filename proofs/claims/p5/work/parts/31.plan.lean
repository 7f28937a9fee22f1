/-! the chest by weeks -/
noncomputable def nOf (h : Nat → Nat → Int) : Nat := (h 72 87).toNat
/-- what comes and goes of itself in the week w -/
noncomputable def inc (h : Nat → Nat → Int) (w : Int) : Int := sm (fun k => ft h k w 1) 6 - h 134 (52 * yN h + w).toNat
/-- what the offer o brings in the week w -/
noncomputable def ofT (h : Nat → Nat → Int) (set : Nat) (w : Int) (o : Nat) : Int := if set.testBit o = true ∧ wN h < h 136 o then (if h 136 o = w then h 135 o else 0) - (if h 136 o + h 137 o = w then h 135 o + h 138 o else 0) else 0
noncomputable def ofr (h : Nat → Nat → Int) (set : Nat) (w : Int) : Int := sm (ofT h set w) (nOf h)
/-- the first week that is short -/
noncomputable def shF (f : Int → Int) : Nat → Int → Int → Int
  | 0, _, _ => -1
  | m + 1, w, a => if w64 (a + f w) < 0 then w else shF f m (w + 1) (w64 (a + f w))
noncomputable def sht (h : Nat → Nat → Int) (set : Nat) : Int := shF (fun w => inc h w + ofr h set w) (51 - wN h).toNat (wN h + 1) (h 72 3)
noncomputable def cst (h : Nat → Nat → Int) (set : Nat) : Int := sm (fun o => if set.testBit o then h 138 o else 0) (nOf h)
section
variable {L : Nat} {xs : Nat → Int} {d : Nat} {S : AH}
theorem GW.n {h : Nat → Nat → Int} (H : GW h) : h 72 87 = (nOf h : Int) ∧ nOf h ≤ 9 := by
  have := H.2.2.2.1
  unfold nOf
  omega
theorem of_bit {s k : Nat} (hs : s < 512) (hk : k < 9) : iand (ishr (s : Int) (k : Int)) 1 = if s.testBit k then 1 else 0 := set_bit (by first | decide | omega) (by first | decide | omega)
theorem wN_bd {h : Nat → Nat → Int} (hT : GT h) : (0 ≤ wN h ∧ wN h < 52) ∧ (0 ≤ yN h ∧ yN h < 10) := by
  unfold GT at hT
  unfold wN yN
  omega
theorem sm_su (f : Nat → Int) (n : Nat) : sm f (n + 1) = sm f n + f n := rfl
theorem m_shk (hT : GT S.2) (hW : GW S.2) {set w : Int} (hw : 0 ≤ w ∧ w < 52) : ∀ (m k : Nat) (x : Int), k + m = 6 → LQ (WK L xs) (ev (WK L xs) (d + 2)) 286 23 [some (vr 72), some (vi set), some (vl x), none, some (vi w), some (vi (k : Int))] [] S = LQ (WK L xs) (ev (WK L xs) (d + 2)) 286 69 [some (vr 72), some (vi set), some (vl (w64 (x + (sm (fun k => ft S.2 k w 1) 6 - sm (fun k => ft S.2 k w 1) k) - S.2 134 (52 * yN S.2 + w).toNat))), none, some (vi w), some (vi 0)] [] S := by
  have hy := (wN_bd hT).2
  intro m
  induction m with
  | zero =>
    intro k x hk
    have e : k = 6 := by omega
    subst e
    rw [q_286_23, if_neg (by first | decide | omega), m_yr hT, bR]
    have e1 : S.2 72 2 / 360 = yN S.2 := rfl
    rw [e1, w32e (x := 52 * yN S.2) (by first | decide | omega) (by first | decide | omega), w32e (by first | decide | omega) (by first | decide | omega), if_pos (by first | decide | omega)]
    rw [show x + (sm (fun k => ft S.2 k w 1) 6 - sm (fun k => ft S.2 k w 1) 6) = x by omega]
  | succ m ih =>
    intro k x hk
    have e1 : (k : Int) + 1 = ((k + 1 : Nat) : Int) := by omega
    rw [q_286_23, if_pos (by first | decide | omega), m_foretells hT hW (by first | decide | omega) hw, bR, w32e (x := (k : Int) + 1) (by first | decide | omega) (by first | decide | omega), e1, ih (k + 1) _ (by first | decide | omega), sm_su (fun k => ft S.2 k w 1) k]
    have e2 : w64 (w64 (x + ft S.2 k w 1) + (sm (fun k => ft S.2 k w 1) 6 - (sm (fun k => ft S.2 k w 1) k + ft S.2 k w 1)) - S.2 134 (52 * yN S.2 + w).toNat) = w64 (x + (sm (fun k => ft S.2 k w 1) 6 - sm (fun k => ft S.2 k w 1) k) - S.2 134 (52 * yN S.2 + w).toNat) := by
      rw [Int.add_sub_assoc, w64_al]
      congr 1
      omega
    rw [e2]
theorem m_sho (hT : GT S.2) (hW : GW S.2) {set : Nat} {w : Int} (hs : set < 512) (hw : 0 ≤ w ∧ w < 52) : ∀ (m o : Nat) (A : Int), o + m = nOf S.2 → LQ (WK L xs) (ev (WK L xs) (d + 1)) 286 69 [some (vr 72), some (vi (set : Int)), some (vl (w64 A)), none, some (vi w), some (vi (o : Int))] [] S = (if w64 (A + (ofr S.2 set w - sm (ofT S.2 set w) o)) < 0 then some (w, S) else LQ (WK L xs) (ev (WK L xs) (d + 1)) 286 13 [some (vr 72), some (vi (set : Int)), some (vl (w64 (A + (ofr S.2 set w - sm (ofT S.2 set w) o)))), none, some (vi (w + 1)), none] [] S) := by
  obtain ⟨hn, hn9⟩ := hW.n
  intro m
  induction m with
  | zero =>
    intro o A ho
    have e : o = nOf S.2 := by omega
    have e2 : A + (ofr S.2 set w - sm (ofT S.2 set w) o) = A := by
      rw [e]
      unfold ofr
      omega
    rw [q_286_69, hn, if_neg (by first | decide | omega), e2, w32e (by first | decide | omega) (by first | decide | omega)]
    simp only [lc_lt]
  | succ m ih =>
    intro o A ho
    have e1 : (o : Int) + 1 = ((o + 1 : Nat) : Int) := by omega
    have hO := hW.2.2.2.2.2 o (by first | decide | omega)
    rw [q_286_69, hn, if_pos (by first | decide | omega), of_bit hs (by first | decide | omega), w32e (x := (o : Int) + 1) (by first | decide | omega) (by first | decide | omega), e1, Int.toNat_natCast]
    have hnext : ∀ B : Int, w64 B = w64 (A + ofT S.2 set w o) → LQ (WK L xs) (ev (WK L xs) (d + 1)) 286 69 [some (vr 72), some (vi (set : Int)), some (vl (w64 B)), none, some (vi w), some (vi ((o + 1 : Nat) : Int))] [] S = (if w64 (A + (ofr S.2 set w - sm (ofT S.2 set w) o)) < 0 then some (w, S) else LQ (WK L xs) (ev (WK L xs) (d + 1)) 286 13 [some (vr 72), some (vi (set : Int)), some (vl (w64 (A + (ofr S.2 set w - sm (ofT S.2 set w) o)))), none, some (vi (w + 1)), none] [] S) := by
      intro B hB
      rw [hB, ih (o + 1) (A + ofT S.2 set w o) (by first | decide | omega), sm_su]
      rw [show A + ofT S.2 set w o + (ofr S.2 set w - (sm (ofT S.2 set w) o + ofT S.2 set w o)) = A + (ofr S.2 set w - sm (ofT S.2 set w) o) by omega]
    cases hb : set.testBit o with
    | false =>
      rw [if_pos (by simp)]
      refine hnext A ?_
      unfold ofT
      rw [hb, if_neg (by simp), Int.add_zero]
    | true =>
      rw [if_neg (by simp), if_pos (by first | decide | omega), m_wk hT, bR]
      have e3 : S.2 72 2 % 360 / 7 = wN S.2 := rfl
      rw [e3]
      by_cases h1 : wN S.2 < S.2 136 o
      · have hv : ofT S.2 set w o = (if S.2 136 o = w then S.2 135 o else 0) - (if S.2 136 o + S.2 137 o = w then S.2 135 o + S.2 138 o else 0) := by
          unfold ofT
          rw [if_pos ⟨hb, h1⟩]
        have h127 : ∀ B : Int, w64 B = w64 (A + (if S.2 136 o = w then S.2 135 o else 0)) → LQ (WK L xs) (ev (WK L xs) (d + 1)) 286 127 [some (vr 72), some (vi (set : Int)), some (vl (w64 B)), none, some (vi w), some (vi (o : Int))] [] S = (if w64 (A + (ofr S.2 set w - sm (ofT S.2 set w) o)) < 0 then some (w, S) else LQ (WK L xs) (ev (WK L xs) (d + 1)) 286 13 [some (vr 72), some (vi (set : Int)), some (vl (w64 (A + (ofr S.2 set w - sm (ofT S.2 set w) o)))), none, some (vi (w + 1)), none] [] S) := by
          intro B hB
          rw [q_286_127, if_pos (by first | decide | omega), if_pos (by first | decide | omega), Int.toNat_natCast, w32e (x := S.2 136 o + S.2 137 o) (by first | decide | omega) (by first | decide | omega), w32e (x := (o : Int) + 1) (by first | decide | omega) (by first | decide | omega), e1]
          by_cases h3 : S.2 136 o + S.2 137 o = w
          · rw [if_pos h3, if_pos (by first | decide | omega), if_pos (by first | decide | omega), w64e (x := S.2 135 o + S.2 138 o) (by first | decide | omega) (by first | decide | omega), w64_sl]
            refine hnext _ ?_
            rw [hv, if_pos h3]
            have : w64 (B - (S.2 135 o + S.2 138 o)) = w64 (w64 B - (S.2 135 o + S.2 138 o)) := (w64_sl _ _).symm
            rw [this, hB, w64_sl]
            congr 1
            omega
          · rw [if_neg h3]
            refine hnext _ ?_
            rw [hv, if_neg h3, hB]
            congr 1
            omega
        rw [if_pos h1, if_pos (by first | decide | omega)]
        by_cases h2 : S.2 136 o = w
        · rw [if_pos h2, if_pos (by first | decide | omega), w64_al]
          refine h127 _ ?_
          rw [if_pos h2]
        · rw [if_neg h2]
          refine h127 _ ?_
          rw [if_neg h2, Int.add_zero]
      · rw [if_neg h1]
        refine hnext A ?_
        unfold ofT
        rw [if_neg (fun z => h1 z.2), Int.add_zero]
theorem m_shw (hT : GT S.2) (hW : GW S.2) {set : Nat} (hs : set < 512) : ∀ (m : Nat) (w a : Int), w + m = 52 → 0 ≤ w → LQ (WK L xs) (ev (WK L xs) (d + 2)) 286 13 [some (vr 72), some (vi (set : Int)), some (vl a), none, some (vi w), none] [] S = some (shF (fun w => inc S.2 w + ofr S.2 set w) m w a, S) := by
  intro m
  induction m with
  | zero =>
    intro w a hw h0
    rw [q_286_13, if_neg (by first | decide | omega)]
    rfl
  | succ m ih =>
    intro w a hw h0
    rw [q_286_13, if_pos (by first | decide | omega)]
    have hk := m_shk (L := L) (xs := xs) (d := d) hT hW (set := (set : Int)) (w := w) (by first | decide | omega) 6 0 a (by first | decide | omega)
    have e0 : ((0 : Nat) : Int) = 0 := rfl
    rw [e0] at hk
    rw [hk]
    have ho := m_sho (L := L) (xs := xs) (d := d + 1) hT hW (set := set) (w := w) hs (by first | decide | omega) (nOf S.2) 0 (a + (sm (fun k => ft S.2 k w 1) 6 - sm (fun k => ft S.2 k w 1) 0) - S.2 134 (52 * yN S.2 + w).toNat) (by first | decide | omega)
    rw [e0] at ho
    rw [ho]
    have e1 : a + (sm (fun k => ft S.2 k w 1) 6 - sm (fun k => ft S.2 k w 1) 0) - S.2 134 (52 * yN S.2 + w).toNat + (ofr S.2 set w - sm (ofT S.2 set w) 0) = a + (inc S.2 w + ofr S.2 set w) := by
      unfold inc
      simp only [sm]
      omega
    rw [e1]
    show _ = some ((if w64 (a + (inc S.2 w + ofr S.2 set w)) < 0 then w else _), S)
    by_cases h1 : w64 (a + (inc S.2 w + ofr S.2 set w)) < 0
    · rw [if_pos h1, if_pos h1]
    · rw [if_neg h1, if_neg h1]
      exact ih (w + 1) _ (by first | decide | omega) (by first | decide | omega)
theorem m_shortBy (hT : GT S.2) (hW : GW S.2) {set : Nat} (hs : set < 512) : ev (WK L xs) (d + 3) 286 [vr 72, vi (set : Int)] S = some (sht S.2 set, S) := by
  have hw := (wN_bd hT).1
  rw [q_286, m_wk hT, bR]
  have e3 : S.2 72 2 % 360 / 7 = wN S.2 := rfl
  rw [e3, w32e (by first | decide | omega) (by first | decide | omega)]
  exact m_shw hT hW hs _ _ _ (by first | decide | omega) (by first | decide | omega)
theorem m_costOf (hW : GW S.2) {set : Nat} (hs : set < 512) : ev (WK L xs) (d + 1) 289 [vr 72, vi (set : Int)] S = some (cst S.2 set, S) := by
  obtain ⟨hn, hn9⟩ := hW.n
  have key : ∀ (m o : Nat), o + m = nOf S.2 → LQ (WK L xs) (ev (WK L xs) d) 289 5 [some (vr 72), some (vi (set : Int)), some (vl (sm (fun o => if set.testBit o then S.2 138 o else 0) o)), none, some (vi (o : Int))] [] S = some (cst S.2 set, S) := by
    intro m
    induction m with
    | zero =>
      intro o ho
      have e : o = nOf S.2 := by omega
      rw [q_289_5, hn, if_neg (by first | decide | omega), e]
      rfl
    | succ m ih =>
      intro o ho
      have hO := hW.2.2.2.2.2 o (by first | decide | omega)
      have hv := sm_bd (f := fun o => if set.testBit o then S.2 138 o else 0) (M := 1000000000) (n := o + 1) (fun j hj => by
        have := hW.2.2.2.2.2 j (by first | decide | omega)
        split <;> omega)
      have hst := sm_su (fun o => if set.testBit o then S.2 138 o else 0) o
      have e1 : (o : Int) + 1 = ((o + 1 : Nat) : Int) := by omega
      rw [q_289_5, hn, if_pos (by first | decide | omega), of_bit hs (by first | decide | omega), w32e (by first | decide | omega) (by first | decide | omega), e1, Int.toNat_natCast]
      cases hb : set.testBit o with
      | true =>
        rw [hb, if_pos rfl] at hst
        rw [if_pos (by simp), if_pos (by first | decide | omega), ← hst, w64e (by first | decide | omega) (by first | decide | omega)]
        exact ih (o + 1) (by first | decide | omega)
      | false =>
        rw [hb, if_neg (by decide)] at hst
        rw [if_neg (by simp), ← hst, w64e (by first | decide | omega) (by first | decide | omega)]
        exact ih (o + 1) (by first | decide | omega)
  rw [q_289]
  exact key (nOf S.2) 0 (by first | decide | omega)
end
