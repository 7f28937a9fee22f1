/-! sum -/
section
variable {L : Nat} {xs : Nat → Int} {d : Nat} {S S' : AH}
/-- what is owed on loans -/
noncomputable def owd (h : Nat → Nat → Int) (i : Nat) : Int := if h 145 i = -1 then h 142 i else 0
noncomputable def oweS (h : Nat → Nat → Int) : Int := w64 (sm (owd h) (h 72 93).toNat)
theorem x_owed (H : GN S.2) : ev (WK L xs) (d + 1) 113 [vr 63] S = some (oweS S.2, S) := by
  obtain ⟨-, -, -, ⟨l1, l2⟩, l3, l4, l5⟩ := H
  have key : ∀ (m i : Nat), i + m = (S.2 72 93).toNat → LQ (WK L xs) (ev (WK L xs) d) 113 4 [some (vr 63), some (vl (w64 (sm (owd S.2) i))), none, some (vi (i : Int))] [] S = some (oweS S.2, S) := by
    intro m
    induction m with
    | zero =>
      intro i hi
      rw [q_113_4, l3, if_neg (by first | decide | omega), show i = (S.2 72 93).toNat by omega]
      rfl
    | succ m ih =>
      intro i hi
      obtain ⟨⟨a1, a2, a3, a4⟩, -⟩ := l5 i (by first | decide | omega)
      have e1 : (i : Int) + 1 = ((i + 1 : Nat) : Int) := by omega
      have hi2 := ih (i + 1) (by first | decide | omega)
      rw [sm_su (owd S.2) i] at hi2
      rw [q_113_4, l3, if_pos (by first | decide | omega), if_pos (by first | decide | omega), if_pos (show (0 : Int) ≤ (i : Int) ∧ (i : Int) < 30 by omega), Int.toNat_natCast, a1, a4, w32e (by first | decide | omega) (by first | decide | omega), e1, w64_al, w64_al]
      by_cases h : S.2 145 i = -1
      · have : owd S.2 i = S.2 142 i := by unfold owd; rw [if_pos h]
        rw [if_pos h, ← this]
        exact hi2
      · have : owd S.2 i = 0 := by unfold owd; rw [if_neg h]
        rw [if_neg h]
        rw [this] at hi2
        exact hi2
  rw [q_113]
  exact key (S.2 72 93).toNat 0 (by first | decide | omega)
theorem m_owed (H : GN S.2) : ev (WK L xs) (d + 1) 295 [vr 72] S = some (oweS S.2, S) := by
  obtain ⟨-, -, -, ⟨l1, l2⟩, l3, l4, l5⟩ := H
  have key : ∀ (m i : Nat), i + m = (S.2 72 93).toNat → LQ (WK L xs) (ev (WK L xs) d) 295 4 [some (vr 72), some (vl (w64 (sm (owd S.2) i))), none, some (vi (i : Int))] [] S = some (oweS S.2, S) := by
    intro m
    induction m with
    | zero =>
      intro i hi
      rw [q_295_4, if_neg (by first | decide | omega), show i = (S.2 72 93).toNat by omega]
      rfl
    | succ m ih =>
      intro i hi
      have e1 : (i : Int) + 1 = ((i + 1 : Nat) : Int) := by omega
      have hi2 := ih (i + 1) (by first | decide | omega)
      rw [sm_su (owd S.2) i] at hi2
      rw [q_295_4, if_pos (by first | decide | omega), if_pos (by first | decide | omega), if_pos (show (0 : Int) ≤ (i : Int) ∧ (i : Int) < 30 by omega), Int.toNat_natCast, w32e (by first | decide | omega) (by first | decide | omega), e1, w64_al, w64_al]
      by_cases h : S.2 145 i = -1
      · have : owd S.2 i = S.2 142 i := by unfold owd; rw [if_pos h]
        rw [if_pos h, ← this]
        exact hi2
      · have : owd S.2 i = 0 := by unfold owd; rw [if_neg h]
        rw [if_neg h]
        rw [this] at hi2
        exact hi2
  rw [q_295]
  exact key (S.2 72 93).toNat 0 (by first | decide | omega)
theorem o_sum (H : Inv S) (p : Int) : Ok L xs 69 319 [vi p] S := by
  have ht := H.gt
  have ht0 := ht.1
  have ht2 := ht.2
  have gk := H.gk
  have gw := H.gw
  have hc : S.2 15 1 = S.2 72 3 := H.gc.1
  obtain ⟨hn, hn3⟩ := nC gk
  have hy := (wN_bd ht).2
  have hpa : ∀ (m c : Nat), c + m = nClaims S.2 → LQ (WK L xs) (ev (WK L xs) 199) 319 53 [some (vr 72), none, some (vl (sm (fun c => if S.2 115 c ≠ -1 then S.2 111 c else 0) c)), none, some (vi (c : Int))] [] S = some (S.2 43 4, S) := by
    intro m
    induction m with
    | zero =>
      intro c hc
      rw [q_319_53, hn, if_neg (by first | decide | omega), gk.2.2.2.2.2.2.2.2.1, show c = nClaims S.2 by omega]
    | succ m ih =>
      intro c hc
      have e1 : (c : Int) + 1 = ((c + 1 : Nat) : Int) := by omega
      have hi2 := ih (c + 1) (by first | decide | omega)
      have hst := sm_su (fun c => if S.2 115 c ≠ -1 then S.2 111 c else 0) c
      have hb := sm_bd (f := fun c => if S.2 115 c ≠ -1 then S.2 111 c else 0) (M := 1000000000) (n := c + 1) (fun j hj => by
        have := gk.1.2.2.2.1 j (by first | decide | omega)
        split <;> omega)
      rw [hst] at hi2 hb
      rw [q_319_53, hn, if_pos (by first | decide | omega), if_pos (by first | decide | omega), if_pos (show (0 : Int) ≤ (c : Int) ∧ (c : Int) < 300 by omega), Int.toNat_natCast, w32e (by first | decide | omega) (by first | decide | omega), e1]
      by_cases h : S.2 115 c = -1
      · rw [if_neg (fun z => z h)] at hi2 hb
        rw [if_pos h, w64e (by first | decide | omega) (by first | decide | omega)]
        exact hi2
      · rw [if_pos h] at hi2 hb
        rw [if_neg h, w64e (by first | decide | omega) (by first | decide | omega)]
        exact hi2
  have hdx : ∀ (m c : Nat), c + m = 52 → LQ (WK L xs) (ev (WK L xs) 198) 192 5 [some (vr 54), some (vi (yN S.2)), some (vl (w64 (sm (fun c => S.2 134 (52 * yN S.2 + c).toNat) c))), none, some (vi (c : Int))] [] S = some (w64 (sm (fun c => S.2 134 (52 * yN S.2 + c).toNat) 52), S) := by
    intro m
    induction m with
    | zero =>
      intro c hc
      rw [q_192_5, if_neg (by first | decide | omega), show c = 52 by omega]
    | succ m ih =>
      intro c hc
      have e1 : (c : Int) + 1 = ((c + 1 : Nat) : Int) := by omega
      have hi2 := ih (c + 1) (by first | decide | omega)
      rw [sm_su (fun c => S.2 134 (52 * yN S.2 + c).toNat) c] at hi2
      rw [q_192_5, if_pos (by first | decide | omega), x_dueIn gw hy (by first | decide | omega), bR, w32e (by first | decide | omega) (by first | decide | omega), e1, w64_al]
      exact hi2
  have hdm : ∀ (m c : Nat), c + m = 52 → LQ (WK L xs) (ev (WK L xs) 199) 319 109 [some (vr 72), none, some (vl (w64 (sm (fun c => S.2 134 (52 * yN S.2 + c).toNat) c))), none, some (vi (c : Int))] [] S = some (w64 (sm (fun c => S.2 134 (52 * yN S.2 + c).toNat) 52), S) := by
    intro m
    induction m with
    | zero =>
      intro c hc
      rw [q_319_109, if_neg (by first | decide | omega), show c = 52 by omega]
    | succ m ih =>
      intro c hc
      have e1 : (c : Int) + 1 = ((c + 1 : Nat) : Int) := by omega
      have hi2 := ih (c + 1) (by first | decide | omega)
      have e3 : S.2 72 2 / 360 = yN S.2 := rfl
      rw [sm_su (fun c => S.2 134 (52 * yN S.2 + c).toNat) c] at hi2
      rw [q_319_109, if_pos (by first | decide | omega), m_yr ht, bR, e3, w32e (x := 52 * yN S.2) (by first | decide | omega) (by first | decide | omega), w32e (x := 52 * yN S.2 + (c : Int)) (by first | decide | omega) (by first | decide | omega), if_pos (by first | decide | omega), w32e (by first | decide | omega) (by first | decide | omega), e1, w64_al]
      exact hi2
  refine Ok.same (r := if p = 0 then S.2 72 3 else if p = 1 then S.2 72 85 else if p = 2 then S.2 43 4 else if p = 3 then oweS S.2 else if p = 4 then S.2 72 86 else if p = 5 then w64 (sm (fun c => S.2 134 (52 * yN S.2 + c).toNat) 52) else -1) H ?_ ?_
  · have e3 : S.2 72 2 / 360 = yN S.2 := rfl
    have hd := hdx 52 0 (by first | decide | omega)
    have hz : w64 (sm (fun c => S.2 134 (52 * yN S.2 + (c : Nat)).toNat) 0) = 0 := rfl
    have h0 : ((0 : Nat) : Int) = 0 := rfl
    rw [hz, h0] at hd
    rw [q_69, hc, gw.2.1, H.gn.2.2.2.2.2.1, x_owed H.gn, bR, ht0, x_yr ht2.1 ht2.2, bR, e3, q_192, hd, bR]
    repeat' split
    all_goals rfl
  · have hd := hdm 52 0 (by first | decide | omega)
    have hz : w64 (sm (fun c => S.2 134 (52 * yN S.2 + (c : Nat)).toNat) 0) = 0 := rfl
    have h0 : ((0 : Nat) : Int) = 0 := rfl
    rw [hz, h0] at hd
    have hpp := hpa (nClaims S.2) 0 (by first | decide | omega)
    have hz2 : sm (fun c => if S.2 115 c ≠ -1 then S.2 111 c else 0) 0 = 0 := rfl
    rw [hz2, h0] at hpp
    rw [q_319, hd, hpp, m_owed H.gn, bR]
    repeat' split
    all_goals rfl
end
