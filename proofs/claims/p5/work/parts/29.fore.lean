/-! foretold -/
/-- the reference's loop over the last weeks -/
noncomputable def ftL (f g : Int → Int) (base what : Int) : Nat → Int → Int → Int → Int → Int
  | 0, _, mine, bef, best => if bef = 0 then base else if what = 0 then ldiv (w64 (base * mine)) bef else best
  | m + 1, p, mine, bef, best => if p < 0 ∨ g p = 0 then ftL f g base what m (p + 1) mine bef best
    else ftL f g base what m (p + 1) (w64 (mine + f p)) (w64 (bef + g p)) (if best = -1 ∨ (if what = 1 then ldiv (w64 (base * f p)) (g p) < best else best < ldiv (w64 (base * f p)) (g p)) then ldiv (w64 (base * f p)) (g p) else best)
noncomputable def yN (h : Nat → Nat → Int) : Int := h 72 2 / 360
noncomputable def wN (h : Nat → Nat → Int) : Int := h 72 2 % 360 / 7
/-- foretold: of the tax k for the week w -/
noncomputable def ft (h : Nat → Nat → Int) (k w what : Int) : Int := ftL (fun p => cme h k (yN h) p) (fun p => cme h k (yN h - 1) p) (cme h k (yN h - 1) w) what 4 (wN h - 4) 0 0 (-1)
theorem cme_bd {h : Nat → Nat → Int} (hW : GW h) {k y w : Int} (hk : 0 ≤ k ∧ k < 6) (hy : y < 10) (hw : 0 ≤ w ∧ w < 52) : 0 ≤ cme h k y w ∧ cme h k y w ≤ 1000000000 := by
  unfold cme
  split
  · exact (hW.1 (tpl k y w) (by unfold tpl; omega)).2
  · omega
section
variable {L : Nat} {xs : Nat → Int} {d : Nat} {S : AH}
theorem m_ftL (hT : GT S.2) (hW : GW S.2) {k w what : Int} (hk : 0 ≤ k ∧ k < 6) : ∀ (m : Nat) (p mine bef best base : Int), p + m = wN S.2 → -4 ≤ p →
    LQ (WK L xs) (ev (WK L xs) (d + 1)) 283 37 [some (vr 72), some (vi k), none, some (vi what), some (vi (yN S.2)), some (vl base), none, some (vl mine), none, some (vl bef), none, some (vl best), none, some (vi p), none, none] [] S = some (ftL (fun p => cme S.2 k (yN S.2) p) (fun p => cme S.2 k (yN S.2 - 1) p) base what m p mine bef best, S) := by
  have ht := hT
  unfold GT at ht
  have hy : 0 ≤ yN S.2 ∧ yN S.2 < 10 := by unfold yN; omega
  have hwk : 0 ≤ wN S.2 ∧ wN S.2 < 52 := by unfold wN; omega
  intro m
  induction m with
  | zero =>
    intro p mine bef best base hp hp4
    rw [q_283_37, m_wk hT, bR]
    have e : S.2 72 2 % 360 / 7 = p := by unfold wN at hp; omega
    rw [e, if_neg (by first | decide | omega)]
    simp only [lc_eq, ftL]
    by_cases h1 : bef = 0
    · rw [if_pos h1, if_pos h1]
    · rw [if_neg h1, if_neg h1]
      by_cases h2 : what = 0
      · rw [if_pos h2, if_pos h2, if_neg h1]
      · rw [if_neg h2, if_neg h2, if_neg h1]
  | succ m ih =>
    intro p mine bef best base hp hp4
    rw [q_283_37, m_wk hT, bR]
    have e : S.2 72 2 % 360 / 7 = wN S.2 := rfl
    rw [e, if_pos (by first | decide | omega), w32e (x := p + 1) (by first | decide | omega) (by first | decide | omega)]
    simp only [ftL]
    by_cases h0 : p < 0
    · rw [if_pos h0, if_pos (Or.inl h0)]
      exact ih (p + 1) mine bef best base (by first | decide | omega) (by first | decide | omega)
    · have hw : 0 ≤ p ∧ p < 52 := by omega
      rw [if_neg h0, w32e (x := yN S.2 - 1) (by first | decide | omega) (by first | decide | omega), m_cameIn k _ p hk (by first | decide | omega) hw, bR]
      simp only [lc_eq]
      by_cases h1 : cme S.2 k (yN S.2 - 1) p = 0
      · rw [if_pos h1, if_pos (Or.inr h1)]
        exact ih (p + 1) mine bef best base (by first | decide | omega) (by first | decide | omega)
      · rw [if_neg h1, if_neg (by first | decide | omega)]
        simp only [m_cameIn k (yN S.2) p hk hy.2 hw, m_cameIn k (yN S.2 - 1) p hk (by first | decide | omega) hw, bR]
        rw [if_neg h1]
        simp only [lc_lt, lc_gt]
        by_cases h2 : best = -1
        · rw [if_pos h2, if_pos (Or.inl h2)]
          exact ih (p + 1) _ _ _ base (by first | decide | omega) (by first | decide | omega)
        · rw [if_neg h2]
          by_cases h3 : what = 1
          · rw [if_pos h3]
            by_cases h4 : ldiv (w64 (base * cme S.2 k (yN S.2) p)) (cme S.2 k (yN S.2 - 1) p) < best
            · rw [if_pos h4, if_pos (Or.inr (by rw [if_pos h3]; exact h4))]
              exact ih (p + 1) _ _ _ base (by first | decide | omega) (by first | decide | omega)
            · rw [if_neg h4, if_neg (by rw [if_pos h3]; omega)]
              exact ih (p + 1) _ _ _ base (by first | decide | omega) (by first | decide | omega)
          · rw [if_neg h3]
            by_cases h4 : best < ldiv (w64 (base * cme S.2 k (yN S.2) p)) (cme S.2 k (yN S.2 - 1) p)
            · rw [if_pos h4, if_pos (Or.inr (by rw [if_neg h3]; exact h4))]
              exact ih (p + 1) _ _ _ base (by first | decide | omega) (by first | decide | omega)
            · rw [if_neg h4, if_neg (by rw [if_neg h3]; omega)]
              exact ih (p + 1) _ _ _ base (by first | decide | omega) (by first | decide | omega)
theorem m_foretells (hT : GT S.2) (hW : GW S.2) {k w what : Int} (hk : 0 ≤ k ∧ k < 6) (hw : 0 ≤ w ∧ w < 52) : ev (WK L xs) (d + 2) 283 [vr 72, vi k, vi w, vi what] S = some (ft S.2 k w what, S) := by
  have ht := hT
  unfold GT at ht
  have hy : 0 ≤ yN S.2 ∧ yN S.2 < 10 := by unfold yN; omega
  have hwk : 0 ≤ wN S.2 ∧ wN S.2 < 52 := by unfold wN; omega
  rw [q_283, m_yr hT, bR]
  have e1 : S.2 72 2 / 360 = yN S.2 := rfl
  have e2 : S.2 72 2 % 360 / 7 = wN S.2 := rfl
  rw [e1, w32e (x := yN S.2 - 1) (by first | decide | omega) (by first | decide | omega), m_cameIn k _ w hk (by first | decide | omega) hw, bR, m_wk hT, bR, e2, w32e (by first | decide | omega) (by first | decide | omega)]
  exact m_ftL (w := w) hT hW hk 4 _ _ _ _ _ (by first | decide | omega) (by first | decide | omega)
/-- a part of a whole is no more than it -/
theorem ldv_bd {a b c : Int} (ha : 0 ≤ a ∧ a ≤ 1000000000) (hb : 0 ≤ b ∧ b ≤ 1000000000) (hc : 0 < c) : 0 ≤ ldiv (w64 (a * b)) c ∧ ldiv (w64 (a * b)) c ≤ 1000000000000000000 := by
  have h1 : 0 ≤ a * b := Int.mul_nonneg ha.1 hb.1
  have h2 : a * b ≤ 1000000000 * 1000000000 := Int.mul_le_mul ha.2 hb.2 hb.1 (by decide)
  rw [w64e (by first | decide | omega) (by first | decide | omega)]
  unfold ldiv
  rw [Int.tdiv_eq_ediv_of_nonneg h1]
  have h3 : 0 ≤ a * b / c := Int.ediv_nonneg h1 (by first | decide | omega)
  have h4 : a * b / c ≤ a * b := Int.ediv_le_self _ h1
  rw [w64e (by first | decide | omega) (by first | decide | omega)]
  omega
theorem x_ftL (hW : GW S.2) {k what day : Int} (hk : 0 ≤ k ∧ k < 6) (hwh : 0 ≤ what ∧ what ≤ 2) (hd1 : 0 ≤ day) (hd2 : day < 3600) : ∀ (m : Nat) (p mine bef best base lo hi : Int), p + m = day % 360 / 7 → 0 ≤ p → m ≤ 4 → (0 ≤ base ∧ base ≤ 1000000000) → (0 ≤ bef ∧ bef + (m : Int) * 1000000000 ≤ 4000000000) → (bef = 0 → best = -1 ∧ hi = 0) → (bef ≠ 0 → best ≠ -1 ∧ (what = 1 → best = lo) ∧ (what = 2 → best = hi ∧ 0 ≤ hi)) →
    LQ (WK L xs) (ev (WK L xs) (d + 2)) 182 44 [some (vr 54), some (vi k), none, some (vi what), some (vi day), some (vi (day / 360)), some (vl base), none, some (vl bef), none, some (vl mine), none, some (vl lo), none, some (vl hi), none, some (vi p), none, none, none, none] [] S = some (ftL (fun p => cme S.2 k (day / 360) p) (fun p => cme S.2 k (day / 360 - 1) p) base what m p mine bef best, S) := by
  intro m
  induction m with
  | zero =>
    intro p mine bef best base lo hi hp hp0 hm hb hbef h1 h2
    rw [q_182_44, x_wk hd1 hd2, bR, if_neg (by first | decide | omega)]
    simp only [lc_eq, ftL]
    by_cases e1 : bef = 0
    · rw [if_pos e1, if_pos e1]
    · obtain ⟨g0, g1, g2⟩ := h2 e1
      rw [if_neg e1, if_neg e1]
      by_cases e2 : what = 0
      · rw [if_pos e2, if_pos e2, if_neg e1]
      · rw [if_neg e2, if_neg e2]
        by_cases e3 : what = 1
        · rw [if_pos e3, g1 e3, if_neg e1]
        · rw [if_neg e3, (g2 (by first | decide | omega)).1, if_neg e1]
  | succ m ih =>
    intro p mine bef best base lo hi hp hp0 hm hb hbef h1 h2
    have hw : 0 ≤ p ∧ p < 52 := by omega
    have hf := cme_bd hW (k := k) (y := day / 360) (w := p) hk (by first | decide | omega) hw
    have hg := cme_bd hW (k := k) (y := day / 360 - 1) (w := p) hk (by first | decide | omega) hw
    rw [q_182_44, x_wk hd1 hd2, bR, if_pos (by first | decide | omega), w32e (x := day / 360 - 1) (by first | decide | omega) (by first | decide | omega), x_arrivedIn hW k _ p hk (by first | decide | omega) hw, bR, w32e (x := p + 1) (by first | decide | omega) (by first | decide | omega)]
    simp only [lc_gt, lc_eq, ftL]
    by_cases e1 : cme S.2 k (day / 360 - 1) p = 0
    · rw [if_neg (by first | decide | omega), if_pos (Or.inr e1)]
      exact ih (p + 1) mine bef best base lo hi (by first | decide | omega) (by first | decide | omega) (by first | decide | omega) hb (by first | decide | omega) h1 h2
    · rw [if_pos (by first | decide | omega), if_neg (by first | decide | omega)]
      simp only [x_arrivedIn hW k (day / 360) p hk (by first | decide | omega) hw, bR]
      rw [if_neg e1]
      have hv := ldv_bd (c := cme S.2 k (day / 360 - 1) p) hb hf (by first | decide | omega)
      have hbf : w64 (bef + cme S.2 k (day / 360 - 1) p) = bef + cme S.2 k (day / 360 - 1) p := w64e (by first | decide | omega) (by first | decide | omega)
      by_cases e2 : bef = 0
      · obtain ⟨g1, g3⟩ := h1 e2
        rw [if_pos e2, q_182_110, x_arrivedIn hW k (day / 360) p hk (by first | decide | omega) hw, bR, w32e (x := p + 1) (by first | decide | omega) (by first | decide | omega), hbf]
        refine ih (p + 1) _ _ _ base _ _ (by first | decide | omega) (by first | decide | omega) (by first | decide | omega) hb (by first | decide | omega) (fun z => by omega) (fun _ => ?_)
        rw [if_pos (Or.inl g1), g3]
        refine ⟨by omega, fun _ => rfl, fun _ => by omega⟩
      · obtain ⟨g0, g1, g2⟩ := h2 e2
        rw [if_neg e2, q_182_110, x_arrivedIn hW k (day / 360) p hk (by first | decide | omega) hw, bR, w32e (x := p + 1) (by first | decide | omega) (by first | decide | omega), hbf]
        refine ih (p + 1) _ _ _ base _ _ (by first | decide | omega) (by first | decide | omega) (by first | decide | omega) hb (by first | decide | omega) (fun z => by omega) (fun _ => ?_)
        by_cases e3 : what = 1
        · have g1 := g1 e3
          subst g1
          by_cases e4 : ldiv (w64 (base * cme S.2 k (day / 360) p)) (cme S.2 k (day / 360 - 1) p) < best
          · rw [if_pos (Or.inr (by rw [if_pos e3]; exact e4))]
            exact ⟨by omega, fun _ => by omega, fun z => by omega⟩
          · rw [if_neg (by rw [if_pos e3]; omega)]
            exact ⟨g0, fun _ => by omega, fun z => by omega⟩
        · by_cases e4 : best < ldiv (w64 (base * cme S.2 k (day / 360) p)) (cme S.2 k (day / 360 - 1) p)
          · rw [if_pos (Or.inr (by rw [if_neg e3]; exact e4))]
            exact ⟨by omega, fun z => by omega, fun z => by have := g2 z; omega⟩
          · rw [if_neg (by rw [if_neg e3]; omega)]
            exact ⟨g0, fun z => by omega, fun z => by have := g2 z; omega⟩
/-- weeks that never were are passed over -/
theorem ftL_skip {f g : Int → Int} {base what : Int} : ∀ (j m : Nat) (p mine bef best : Int), p + j ≤ 0 → ftL f g base what (j + m) p mine bef best = ftL f g base what m (p + j) mine bef best := by
  intro j
  induction j with
  | zero =>
    intro m p mine bef best h
    rw [Nat.zero_add, show p + ((0 : Nat) : Int) = p by omega]
  | succ j ih =>
    intro m p mine bef best h
    have e : j + 1 + m = (j + m) + 1 := by omega
    rw [e]
    show (if p < 0 ∨ g p = 0 then _ else _) = _
    rw [if_pos (Or.inl (by first | decide | omega)), ih m (p + 1) mine bef best (by first | decide | omega)]
    congr 1
    omega
theorem x_foreseen (hT : GT S.2) (hW : GW S.2) {k w what : Int} (hk : 0 ≤ k ∧ k < 6) (hw : 0 ≤ w ∧ w < 52) (hwh : 0 ≤ what ∧ what ≤ 2) : ev (WK L xs) (d + 3) 182 [vr 54, vi k, vi w, vi what, vi (S.2 72 2)] S = some (ft S.2 k w what, S) := by
  have ht := hT
  unfold GT at ht
  have hy : 0 ≤ S.2 72 2 / 360 ∧ S.2 72 2 / 360 < 10 := by omega
  have hwk : 0 ≤ S.2 72 2 % 360 / 7 ∧ S.2 72 2 % 360 / 7 < 52 := by omega
  have hb := cme_bd hW (k := k) (y := S.2 72 2 / 360 - 1) (w := w) hk (by first | decide | omega) hw
  rw [q_182, x_yr ht.2.1 ht.2.2, bR, w32e (x := S.2 72 2 / 360 - 1) (by first | decide | omega) (by first | decide | omega), x_arrivedIn hW k _ w hk (by first | decide | omega) hw, bR, x_wk ht.2.1 ht.2.2, bR, w32e (by first | decide | omega) (by first | decide | omega)]
  unfold ft
  have e1 : yN S.2 = S.2 72 2 / 360 := rfl
  have e2 : wN S.2 = S.2 72 2 % 360 / 7 := rfl
  rw [e1, e2]
  by_cases h4 : 4 ≤ S.2 72 2 % 360 / 7
  · rw [Int.max_eq_right (by first | decide | omega)]
    exact x_ftL hW hk hwh ht.2.1 ht.2.2 4 _ _ _ _ _ _ _ (by first | decide | omega) (by first | decide | omega) (by first | decide | omega) hb (by first | decide | omega) (fun _ => ⟨rfl, rfl⟩) (fun z => absurd rfl z)
  · rw [Int.max_eq_left (by first | decide | omega)]
    obtain ⟨j, hj⟩ : ∃ j : Nat, (j : Int) = 4 - S.2 72 2 % 360 / 7 := ⟨(4 - S.2 72 2 % 360 / 7).toNat, by omega⟩
    obtain ⟨m, hm⟩ : ∃ m : Nat, (m : Int) = S.2 72 2 % 360 / 7 := ⟨(S.2 72 2 % 360 / 7).toNat, by omega⟩
    have e4 : (4 : Nat) = j + m := by omega
    have hs := ftL_skip (f := fun p => cme S.2 k (S.2 72 2 / 360) p) (g := fun p => cme S.2 k (S.2 72 2 / 360 - 1) p) (base := cme S.2 k (S.2 72 2 / 360 - 1) w) (what := what) j m (S.2 72 2 % 360 / 7 - 4) 0 0 (-1) (by first | decide | omega)
    rw [← e4, show S.2 72 2 % 360 / 7 - 4 + (j : Int) = 0 by omega] at hs
    rw [hs]
    exact x_ftL hW hk hwh ht.2.1 ht.2.2 m 0 _ _ _ _ _ _ (by first | decide | omega) (by first | decide | omega) (by first | decide | omega) hb (by first | decide | omega) (fun _ => ⟨rfl, rfl⟩) (fun z => absurd rfl z)
theorem o_foretold (H : Inv S) (k w what : Int) : Ok L xs 41 282 [vi k, vi w, vi what] S := by
  have ht := H.gt
  unfold GT at ht
  by_cases hc : (0 ≤ k ∧ k < 6) ∧ (S.2 72 2 % 360 / 7 < w ∧ w < 52) ∧ (0 ≤ what ∧ what ≤ 2)
  · have hw : 0 ≤ w ∧ w < 52 := by omega
    refine Ok.same (r := ft S.2 k w what) H ?_ ?_
    · rw [q_41]
      simp only [x_isTax, x_isWeek, bR, bi_0]
      rw [if_neg (fun z => z hc.1), if_neg (fun z => z hw), if_neg (by first | decide | omega), if_neg (by first | decide | omega), ht.1, x_wk ht.2.1 ht.2.2, bR, if_pos hc.2.1.1, ht.1, x_foreseen H.gt H.gw hc.1 hw hc.2.2, bR]
    · rw [q_282]
      simp only [m_lies, m_wk H.gt, bR, bi_0]
      rw [w32e (by first | decide | omega) (by first | decide | omega), if_neg (by first | decide | omega), if_neg (by first | decide | omega), if_neg (by first | decide | omega), m_foretells H.gt H.gw hc.1 hw, bR]
  · refine Ok.same (r := -1) H ?_ ?_
    · rw [q_41]
      simp only [x_isTax, x_isWeek, bR, bi_0]
      by_cases h1 : 0 ≤ k ∧ k < 6
      · rw [if_neg (fun z => z h1)]
        by_cases h2 : 0 ≤ w ∧ w < 52
        · rw [if_neg (fun z => z h2)]
          by_cases h3 : what < 0
          · rw [if_pos h3]
          · rw [if_neg h3]
            by_cases h4 : 2 < what
            · rw [if_pos h4]
            · rw [if_neg h4, ht.1, x_wk ht.2.1 ht.2.2, bR, if_neg (by first | decide | omega)]
        · rw [if_pos h2]
      · rw [if_pos h1]
    · rw [q_282]
      simp only [m_lies, m_wk H.gt, bR, bi_0]
      rw [w32e (by first | decide | omega) (by first | decide | omega)]
      by_cases h1 : 0 ≤ k ∧ k < 6
      · rw [if_neg (by first | decide | omega)]
        by_cases h2 : S.2 72 2 % 360 / 7 + 1 ≤ w ∧ w ≤ 51
        · rw [if_neg (fun z => z h2), if_pos (by first | decide | omega)]
        · rw [if_pos h2]
      · rw [if_pos (by first | decide | omega)]
end
