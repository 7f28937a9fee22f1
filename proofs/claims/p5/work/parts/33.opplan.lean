/-! shortWeek, judge, plan -/
theorem shF_bd {f : Int → Int} : ∀ (m : Nat) (w a : Int), 0 ≤ w → -1 ≤ shF f m w a ∧ shF f m w a < w + m := by
  intro m
  induction m with
  | zero =>
    intro w a hw
    show -1 ≤ (-1 : Int) ∧ (-1 : Int) < w + (0 : Nat)
    omega
  | succ m ih =>
    intro w a hw
    show -1 ≤ (if w64 (a + f w) < 0 then w else shF f m (w + 1) (w64 (a + f w))) ∧ (if w64 (a + f w) < 0 then w else shF f m (w + 1) (w64 (a + f w))) < w + ((m + 1 : Nat) : Int)
    have := ih (w + 1) (w64 (a + f w)) (by first | decide | omega)
    split
    · omega
    · omega
theorem sht_bd {h : Nat → Nat → Int} (hT : GT h) (set : Nat) : -1 ≤ sht h set ∧ sht h set < 52 := by
  have hw := (wN_bd hT).1
  have := shF_bd (f := fun w => inc h w + ofr h set w) (51 - wN h).toNat (wN h + 1) (h 72 3) (by first | decide | omega)
  unfold sht
  omega
/-- the cheapest set that keeps the chest -/
abbrev bttr (h : Nat → Nat → Int) (s : Nat) (best : Int) : Prop := best = -1 ∨ cst h s < cst h best.toNat ∨ (cst h s = cst h best.toNat ∧ pcn s < pcn best.toNat)
noncomputable def plL (h : Nat → Nat → Int) : Nat → Nat → Int → Int
  | 0, _, best => best
  | m + 1, s, best => plL h m (s + 1) (if bttr h s best ∧ sht h s = -1 then (s : Int) else best)
section
variable {L : Nat} {xs : Nat → Int} {d : Nat} {S S0 : AH}
theorem ex_ite {c : Prop} [Decidable c] {X : Rs} {w : Int} {S : AH} (h : ∃ r, X = some (r, S)) : ∃ r, (if c then some (w, S) else X) = some (r, S) := by
  by_cases q : c
  · exact ⟨w, if_pos q⟩
  · obtain ⟨r, hr⟩ := h
    exact ⟨r, (if_neg q).trans hr⟩
theorem j_fdiv (x : Int) : ∃ r, ev (WK L xs) (d + 1) 337 [vl x, vl 1000000000] S = some (r, S) := by
  rw [q_337, if_neg (by decide)]
  exact (by
    by_cases q : lcmp (lxor x 1000000000) 0 < 0
    · rw [if_pos q]
      exact ex_ite ⟨_, rfl⟩
    · rw [if_neg q]
      exact ⟨_, rfl⟩)
theorem x_fsl : ∀ (m : Nat) (w x : Int), w + m = 52 → 0 ≤ w → ∃ r, LQ (WK L xs) (ev (WK L xs) (d + 1)) 186 19 [some (vr 54), none, none, some (vl x), none, some (vi w)] [] S = some (r, S) := by
  intro m
  induction m with
  | zero =>
    intro w x hw h0
    rw [q_186_19, if_neg (by first | decide | omega)]
    exact ⟨_, rfl⟩
  | succ m ih =>
    intro w x hw h0
    obtain ⟨q, hq⟩ := j_fdiv (L := L) (xs := xs) (d := d) (S := S) (w64 (S.2 150 w.toNat + w64 (x + S.2 62 w.toNat)))
    rw [q_186_19, if_pos (by first | decide | omega), if_pos (by first | decide | omega), if_pos (by first | decide | omega), if_pos (by first | decide | omega), hq, bR, w32e (by first | decide | omega) (by first | decide | omega)]
    exact ex_ite (ih (w + 1) _ (by first | decide | omega) (by first | decide | omega))
theorem x_firstShort (hD : D61 S0 S) (hT : GT S0.2) (hW : GW S0.2) {set : Nat} (hs : set < 512) : ∃ r S', ev (WK L xs) (d + 3) 186 [vr 54, vi (set : Int), vi (S0.2 72 2)] S = some (r, S') ∧ D61 S0 S' := by
  have ht := hT
  unfold GT at ht
  have hwb := (wN_bd hT).1
  have e3 : S0.2 72 2 % 360 / 7 = wN S0.2 := rfl
  obtain ⟨T, f1, f2, f3, f4⟩ := j_fill (L := L) (xs := xs) (d := d) (S := S)
  have hDT := hD.tr f2
  obtain ⟨U, u1, u2, u3, u4⟩ := x_flow (L := L) (xs := xs) (d := d) (S0 := S0) (set := set) hs (nOf S0.2) 0 T hDT (hDT.gt hT) (hDT.gw hW) (by first | decide | omega) (fun k hk => by rw [f4 k hk]; rfl)
  have e0 : ((0 : Nat) : Int) = 0 := rfl
  rw [e0] at u1
  obtain ⟨r, hr⟩ := x_fsl (L := L) (xs := xs) (d := d + 1) (S := U) (51 - wN S0.2).toNat (wN S0.2 + 1) 0 (by first | decide | omega) (by first | decide | omega)
  refine ⟨r, U, ?_, u2⟩
  rw [q_186, x_wk ht.2.1 ht.2.2, bR, e3, q_187, f1, bR, u1, bR, x_wk ht.2.1 ht.2.2, bR, e3, w32e (by first | decide | omega) (by first | decide | omega)]
  exact hr
theorem x_costOf (hW : GW S.2) {set : Nat} (hs : set < 512) : ev (WK L xs) (d + 1) 190 [vr 54, vi (set : Int)] S = some (cst S.2 set, S) := by
  obtain ⟨hn, hn9⟩ := hW.n
  have key : ∀ (m o : Nat), o + m = nOf S.2 → LQ (WK L xs) (ev (WK L xs) d) 190 5 [some (vr 54), some (vi (set : Int)), some (vl (sm (fun o => if set.testBit o then S.2 138 o else 0) o)), none, some (vi (o : Int))] [] S = some (cst S.2 set, S) := by
    intro m
    induction m with
    | zero =>
      intro o ho
      have e : o = nOf S.2 := by omega
      rw [q_190_5, hW.2.2.2.2.1, hn, if_neg (by first | decide | omega), e]
      rfl
    | succ m ih =>
      intro o ho
      have hO := hW.2.2.2.2.2 o (by first | decide | omega)
      have hv := sm_bd (f := fun o => if set.testBit o then S.2 138 o else 0) (M := 1000000000) (n := o + 1) (fun j hj => by
        have := hW.2.2.2.2.2 j (by first | decide | omega)
        split <;> omega)
      have hst := sm_su (fun o => if set.testBit o then S.2 138 o else 0) o
      have e1 : (o : Int) + 1 = ((o + 1 : Nat) : Int) := by omega
      rw [q_190_5, hW.2.2.2.2.1, hn, if_pos (by first | decide | omega), of_bit hs (by first | decide | omega), w32e (by first | decide | omega) (by first | decide | omega), e1, Int.toNat_natCast]
      cases hb : set.testBit o with
      | true =>
        rw [hb, if_pos rfl] at hst
        rw [if_neg (by simp), if_pos (by first | decide | omega), hO.1.2.2.2, ← hst, w64e (by first | decide | omega) (by first | decide | omega)]
        exact ih (o + 1) (by first | decide | omega)
      | false =>
        rw [hb, if_neg (by decide)] at hst
        rw [if_pos (by simp), ← hst, w64e (by first | decide | omega) (by first | decide | omega)]
        exact ih (o + 1) (by first | decide | omega)
  rw [q_190]
  exact key (nOf S.2) 0 (by first | decide | omega)
/-- both answer, and it goes on -/
noncomputable def OkU (L : Nat) (xs : Nat → Int) (mx mm : Nat) (as : List TV) (S : AH) : Prop := ∃ (r q : Int) (S1 S2 : AH), ev (WK L xs) 200 mx (vr 15 :: as) S = some (r, S1) ∧ ev (WK L xs) 200 mm (vr 72 :: as) S1 = some (q, S2) ∧ Inv S2 ∧ Gw S S2
theorem Ok.u {mx mm : Nat} {as : List TV} (h : Ok L xs mx mm as S) : OkU L xs mx mm as S := by
  obtain ⟨r, A, B, a1, a2, a3, a4⟩ := h
  exact ⟨r, r, A, B, a1, a2, a3, a4⟩
theorem o_shortWeek (H : Inv S) : OkU L xs 43 285 [] S := by
  have ht := H.gt
  unfold GT at ht
  have hc := H.gc.1
  obtain ⟨S1, a1, a2⟩ := x_reckonWorst (L := L) (xs := xs) (d := 195) H.gt H.gw (S.2 72 3)
  obtain ⟨r, S2, b1, b2⟩ := x_firstShort (L := L) (xs := xs) (d := 196) a2 H.gt H.gw (set := 0) (by first | decide | omega)
  refine ⟨r, sht S.2 0, S2, S2, ?_, ?_, b2.inv H, Gw.of b2.1⟩
  · rw [q_43, ht.1, hc, a1, bR, a2.2 15 (by decide) (by decide) (by decide), ht.1]
    exact (congrArg (bindR · _) b1).trans rfl
  · rw [q_285]
    have := m_shortBy (L := L) (xs := xs) (d := 196) (b2.gt H.gt) (b2.gw H.gw) (set := 0) (by first | decide | omega)
    rw [b2.spec.2.2.2.2.2.2.2.1] at this
    exact (congrArg (bindR · _) this).trans rfl
theorem set_lt {n : Nat} (h : n ≤ 9) : 2 ^ n ≤ 512 ∧ 1 ≤ 2 ^ n := ⟨Nat.le_trans (Nat.pow_le_pow_right (by decide) h) (by decide), Nat.one_le_two_pow⟩
theorem o_judge (H : Inv S) (p : Int) : OkU L xs 46 291 [vi p] S := by
  have ht := H.gt
  unfold GT at ht
  have hc := H.gc.1
  obtain ⟨hn, hn9⟩ := H.gw.n
  have h2 := set_lt hn9
  have en : S.2 54 7 = (nOf S.2 : Int) := H.gw.2.2.2.2.1.trans hn
  by_cases hp : 0 ≤ p ∧ p < ((2 ^ nOf S.2 : Nat) : Int)
  · obtain ⟨s, hs⟩ := Int.eq_ofNat_of_zero_le hp.1
    subst hs
    have hs5 : s < 512 := by omega
    obtain ⟨S1, a1, a2⟩ := x_reckonWorst (L := L) (xs := xs) (d := 195) H.gt H.gw (S.2 72 3)
    obtain ⟨r, S2, b1, b2⟩ := x_firstShort (L := L) (xs := xs) (d := 196) a2 H.gt H.gw (set := s) hs5
    have hb := sht_bd H.gt s
    refine ⟨if r = -1 then cst S.2 s else w64 (-2 - r), if sht S.2 s = -1 then cst S.2 s else -2 - sht S.2 s, S2, S2, ?_, ?_, b2.inv H, Gw.of b2.1⟩
    · rw [q_46, q_191, en, ishl_n _ (by first | decide | omega), if_neg (by first | decide | omega), if_pos hp.2, bR, if_neg (by decide), ht.1, hc, a1, bR, a2.2 15 (by decide) (by decide) (by decide), ht.1, b1, bR]
      by_cases h3 : r = -1
      · rw [if_pos h3, if_pos h3, x_costOf (b2.gw H.gw) hs5, bR, b2.spec.2.2.2.2.2.2.2.2]
      · rw [if_neg h3, if_neg h3]
    · have := m_shortBy (L := L) (xs := xs) (d := 196) (b2.gt H.gt) (b2.gw H.gw) (set := s) hs5
      rw [b2.spec.2.2.2.2.2.2.2.1] at this
      rw [q_291, q_195, b2.2 72 (by decide) (by decide) (by decide), hn, ishl_n _ (by first | decide | omega), w32e (by first | decide | omega) (by first | decide | omega)]
      simp only [lc_lt, lc_gt]
      rw [if_neg (by first | decide | omega), if_neg (by first | decide | omega), bR, if_neg (by decide), this, bR]
      by_cases h3 : sht S.2 s = -1
      · rw [if_pos h3, if_pos h3, m_costOf (b2.gw H.gw) hs5, bR, b2.spec.2.2.2.2.2.2.2.2]
      · rw [if_neg h3, if_neg h3, w32e (by first | decide | omega) (by first | decide | omega)]
  · refine Ok.u (Ok.same (r := -1) H ?_ ?_)
    · rw [q_46, q_191, en, ishl_n _ (by first | decide | omega)]
      by_cases h1 : p < 0
      · rw [if_pos h1, bR, if_pos rfl]
      · rw [if_neg h1, if_neg (by first | decide | omega), bR, if_pos rfl]
    · rw [q_291, q_195, hn, ishl_n _ (by first | decide | omega), w32e (by first | decide | omega) (by first | decide | omega)]
      simp only [lc_lt, lc_gt]
      by_cases h1 : p < 0
      · rw [if_pos h1, bR, if_pos rfl]
      · rw [if_neg h1, if_pos (by first | decide | omega), bR, if_pos rfl]
theorem m_pll (hT : GT S.2) (hW : GW S.2) : ∀ (m s : Nat) (best : Int), s + m = 2 ^ nOf S.2 → (best = -1 ∨ (0 ≤ best ∧ best < s)) → LQ (WK L xs) (ev (WK L xs) (d + 3)) 288 4 [some (vr 72), some (vi best), some (vi (s : Int))] [] S = some (plL S.2 m s best, S) := by
  obtain ⟨hn, hn9⟩ := hW.n
  have h2 := set_lt hn9
  intro m
  induction m with
  | zero =>
    intro s best hs hb
    rw [q_288_4, hn, ishl_n _ (by first | decide | omega), if_neg (by first | decide | omega)]
    rfl
  | succ m ih =>
    intro s best hs hb
    have hs5 : s < 512 := by omega
    have e1 : (s : Int) + 1 = ((s + 1 : Nat) : Int) := by omega
    have hy := ih (s + 1) s (by first | decide | omega) (by first | decide | omega)
    have hno := ih (s + 1) best (by first | decide | omega) (by first | decide | omega)
    rw [q_288_4, hn, ishl_n _ (by first | decide | omega), if_pos (by first | decide | omega), w32e (x := (s : Int) + 1) (by first | decide | omega) (by first | decide | omega), e1]
    have hT2 : ∀ q : bttr S.2 s best, bindR (ev (WK L xs) (d + 3) 286 [vr 72, vi (s : Int)] S) (fun r1 S2 => (if r1 = -1 then (LQ (WK L xs) (ev (WK L xs) (d + 3)) 288 4 [some (vr 72), some (vi (s : Int)), some (vi ((s + 1 : Nat) : Int))] [] S2) else (LQ (WK L xs) (ev (WK L xs) (d + 3)) 288 4 [some (vr 72), some (vi best), some (vi ((s + 1 : Nat) : Int))] [] S2))) = some (plL S.2 (m + 1) s best, S) := by
      intro q
      rw [m_shortBy hT hW hs5, bR]
      simp only [plL]
      by_cases h3 : sht S.2 s = -1
      · rw [if_pos h3, if_pos ⟨q, h3⟩, hy]
      · rw [if_neg h3, if_neg (fun z => h3 z.2), hno]
    have hF2 : ¬ bttr S.2 s best → LQ (WK L xs) (ev (WK L xs) (d + 3)) 288 4 [some (vr 72), some (vi best), some (vi ((s + 1 : Nat) : Int))] [] S = some (plL S.2 (m + 1) s best, S) := by
      intro q
      simp only [plL]
      rw [if_neg (fun z => q z.1), hno]
    by_cases hb1 : best = -1
    · rw [if_pos hb1]
      exact hT2 (Or.inl hb1)
    · rw [if_neg hb1]
      obtain ⟨b, hbb⟩ := Int.eq_ofNat_of_zero_le (show 0 ≤ best by omega)
      subst hbb
      have hb5 : b < 512 := by omega
      simp only [m_costOf (d := d + 2) hW hs5, m_costOf (d := d + 2) hW hb5, bR, lc_gt, lc_eq, m_sizeOf (d := d + 2) s (by first | decide | omega), m_sizeOf (d := d + 2) b (by first | decide | omega)]
      by_cases h1 : cst S.2 b < cst S.2 s
      · rw [if_pos h1]
        refine hF2 ?_
        unfold bttr
        rw [Int.toNat_natCast]
        omega
      · rw [if_neg h1]
        by_cases h3 : cst S.2 s = cst S.2 b
        · rw [if_pos h3]
          by_cases h4 : (pcn s : Int) < (pcn b : Int)
          · rw [if_pos h4]
            refine hT2 ?_
            unfold bttr
            rw [Int.toNat_natCast]
            omega
          · rw [if_neg h4]
            refine hF2 ?_
            unfold bttr
            rw [Int.toNat_natCast]
            omega
        · rw [if_neg h3]
          refine hT2 ?_
          unfold bttr
          rw [Int.toNat_natCast]
          omega
theorem x_pll (hT : GT S0.2) (hW : GW S0.2) : ∀ (m s : Nat) (best c : Int) (S : AH), s + m = 2 ^ nOf S0.2 → (best = -1 ∨ (0 ≤ best ∧ best < s)) → D61 S0 S → ∃ r S', LQ (WK L xs) (ev (WK L xs) (d + 3)) 189 7 [some (vr 54), some (vi (S0.2 72 2)), some (vi best), some (vl c), none, some (vi (s : Int)), none, none, none] [] S = some (r, S') ∧ D61 S0 S' := by
  obtain ⟨hn, hn9⟩ := hW.n
  have h2 := set_lt hn9
  intro m
  induction m with
  | zero =>
    intro s best c S hs hb hD
    have en : S.2 54 7 = (nOf S0.2 : Int) := by rw [hD.2 54 (by decide) (by decide) (by decide), hW.2.2.2.2.1, hn]
    rw [q_189_7, en, ishl_n _ (by first | decide | omega), if_neg (by first | decide | omega)]
    exact ⟨best, S, rfl, hD⟩
  | succ m ih =>
    intro s best c S hs hb hD
    have hs5 : s < 512 := by omega
    have e1 : (s : Int) + 1 = ((s + 1 : Nat) : Int) := by omega
    have en : S.2 54 7 = (nOf S0.2 : Int) := by rw [hD.2 54 (by decide) (by decide) (by decide), hW.2.2.2.2.1, hn]
    have hno := ih (s + 1) best c S (by first | decide | omega) (by first | decide | omega) hD
    rw [q_189_7, en, ishl_n _ (by first | decide | omega), if_pos (by first | decide | omega), x_costOf (hD.gw hW) hs5, bR]
    have hT2 : ∃ r S', LQ (WK L xs) (ev (WK L xs) (d + 3)) 189 62 [some (vr 54), some (vi (S0.2 72 2)), some (vi best), some (vl c), none, some (vi (s : Int)), some (vl (cst S.2 s)), none, none] [vi 1] S = some (r, S') ∧ D61 S0 S' := by
      obtain ⟨r, S1, b1, b2⟩ := x_firstShort (L := L) (xs := xs) (d := d) hD hT hW (set := s) hs5
      rw [q_189_62, if_neg (by decide), b1, bR, w32e (x := (s : Int) + 1) (by first | decide | omega) (by first | decide | omega), e1]
      by_cases h3 : r = -1
      · rw [if_pos h3]
        exact ih (s + 1) s (cst S.2 s) S1 (by first | decide | omega) (Or.inr ⟨by omega, by omega⟩) b2
      · rw [if_neg h3]
        exact ih (s + 1) best c S1 (by first | decide | omega) (by first | decide | omega) b2
    have hF2 : ∃ r S', LQ (WK L xs) (ev (WK L xs) (d + 3)) 189 62 [some (vr 54), some (vi (S0.2 72 2)), some (vi best), some (vl c), none, some (vi (s : Int)), some (vl (cst S.2 s)), none, none] [vi 0] S = some (r, S') ∧ D61 S0 S' := by
      rw [q_189_62, if_pos rfl, w32e (x := (s : Int) + 1) (by first | decide | omega) (by first | decide | omega), e1]
      exact hno
    by_cases hb1 : best = -1
    · rw [if_pos hb1]
      exact hT2
    · rw [if_neg hb1]
      obtain ⟨b, hbb⟩ := Int.eq_ofNat_of_zero_le (show 0 ≤ best by omega)
      subst hbb
      have hb5 : b < 512 := by omega
      simp only [lc_lt, lc_eq, j_bitCount (d := d + 2) s (by first | decide | omega), j_bitCount (d := d + 2) b (by first | decide | omega), bR]
      by_cases h1 : cst S.2 s < c
      · rw [if_pos h1]
        exact hT2
      · rw [if_neg h1]
        by_cases h3 : cst S.2 s = c
        · rw [if_pos h3]
          by_cases h4 : (pcn s : Int) < (pcn b : Int)
          · rw [if_pos h4]
            exact hT2
          · rw [if_neg h4]
            exact hF2
        · rw [if_neg h3]
          exact hF2
theorem o_plan (H : Inv S) : OkU L xs 45 288 [] S := by
  have ht := H.gt
  unfold GT at ht
  have hc := H.gc.1
  obtain ⟨S1, a1, a2⟩ := x_reckonWorst (L := L) (xs := xs) (d := 195) H.gt H.gw (S.2 72 3)
  obtain ⟨r, S2, b1, b2⟩ := x_pll (L := L) (xs := xs) (d := 195) H.gt H.gw (2 ^ nOf S.2) 0 (-1) 0 S1 (by first | decide | omega) (Or.inl rfl) a2
  refine ⟨r, plL S2.2 (2 ^ nOf S2.2) 0 (-1), S2, S2, ?_, ?_, b2.inv H, Gw.of b2.1⟩
  · rw [q_45, ht.1, hc, a1, bR, a2.2 15 (by decide) (by decide) (by decide), ht.1, q_189]
    exact (congrArg (bindR · _) b1).trans rfl
  · have := m_pll (L := L) (xs := xs) (d := 196) (b2.gt H.gt) (b2.gw H.gw) (2 ^ nOf S2.2) 0 (-1) (by first | decide | omega) (Or.inl rfl)
    rw [q_288]
    exact this
end
