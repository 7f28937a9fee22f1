/-! where all is zero no week is short, on both sides -/
noncomputable def Zr (h : Nat → Nat → Int) : Prop := h 72 3 = 0 ∧ h 72 87 = 0 ∧ (∀ i : Nat, i < 3120 → h 133 i = 0) ∧ ∀ i : Nat, i < 520 → h 134 i = 0
theorem D61.zr {S S' : AH} (h : D61 S S') (hz : Zr S.2) : Zr S'.2 := by
  unfold Zr at hz ⊢
  rw [h.2 72 (by decide) (by decide) (by decide), h.2 133 (by decide) (by decide) (by decide), h.2 134 (by decide) (by decide) (by decide)]
  exact hz
theorem Zr.cm {h : Nat → Nat → Int} (hz : Zr h) {k y w : Int} (hk : 0 ≤ k ∧ k < 6) (hy : y < 10) (hw : 0 ≤ w ∧ w < 52) : cme h k y w = 0 := by
  unfold cme
  split
  · exact hz.2.2.1 _ (by unfold tpl; omega)
  · rfl
theorem ftL_0 {f g : Int → Int} {what : Int} : ∀ (m : Nat) (p : Int), (∀ q, 0 ≤ q → q < p + m → g q = 0) → ftL f g 0 what m p 0 0 (-1) = 0 := by
  intro m
  induction m with
  | zero =>
    intro p hg
    show (if (0 : Int) = 0 then (0 : Int) else _) = 0
    rw [if_pos rfl]
  | succ m ih =>
    intro p hg
    have hc : p < 0 ∨ g p = 0 := by
      by_cases h : p < 0
      · exact Or.inl h
      · exact Or.inr (hg p (by omega) (by omega))
    simp only [ftL]
    rw [if_pos hc]
    exact ih (p + 1) (fun q q1 q2 => hg q q1 (by omega))
theorem ft_0 {h : Nat → Nat → Int} (hT : GT h) (hz : Zr h) {k w what : Int} (hk : 0 ≤ k ∧ k < 6) (hw : 0 ≤ w ∧ w < 52) : ft h k w what = 0 := by
  obtain ⟨h1, h2⟩ := wN_bd hT
  unfold ft
  rw [hz.cm (y := yN h - 1) hk (by omega) hw]
  exact ftL_0 4 _ (fun q q1 q2 => hz.cm hk (by omega) ⟨q1, by omega⟩)
theorem rcB_0 {g : Nat → Int} : ∀ (m k : Nat), (∀ j, k ≤ j → j < k + m → g j = 0) → rcB g m k 0 = 0 := by
  intro m
  induction m with
  | zero => intro k _; rfl
  | succ m ih =>
    intro k hg
    simp only [rcB]
    rw [hg k (by omega) (by omega), show w64 (0 + ldiv 0 1000000000) = 0 from by decide]
    exact ih (k + 1) (fun j h1 h2 => hg j (by omega) (by omega))
theorem rcP_0 {g : Nat → Int} : ∀ (m k : Nat), (∀ j, k ≤ j → j < k + m → g j = 0) → rcP g m k 0 = 0 := by
  intro m
  induction m with
  | zero => intro k _; rfl
  | succ m ih =>
    intro k hg
    simp only [rcP]
    rw [hg k (by omega) (by omega), show w64 (0 + Int.tmod 0 1000000000) = 0 from by decide]
    exact ih (k + 1) (fun j h1 h2 => hg j (by omega) (by omega))
theorem shF_0 {f : Int → Int} : ∀ (m : Nat) (w : Int), (∀ q, w ≤ q → q < w + m → f q = 0) → shF f m w 0 = -1 := by
  intro m
  induction m with
  | zero => intro w _; rfl
  | succ m ih =>
    intro w hf
    simp only [shF]
    rw [hf w (by omega) (by omega), show w64 (0 + 0) = 0 from by decide, if_neg (by omega)]
    exact ih (w + 1) (fun q q1 q2 => hf q (by omega) (by omega))
theorem Zr.nO {h : Nat → Nat → Int} (hz : Zr h) : nOf h = 0 := by
  unfold nOf
  rw [hz.2.1]
  rfl
theorem sht_0 {h : Nat → Nat → Int} (hT : GT h) (hz : Zr h) (set : Nat) : sht h set = -1 := by
  obtain ⟨h1, h2⟩ := wN_bd hT
  unfold sht
  rw [hz.1]
  refine shF_0 _ _ (fun q q1 q2 => ?_)
  have hq : 0 ≤ q ∧ q < 52 := by omega
  unfold inc ofr
  rw [hz.nO, hz.2.2.2 _ (by omega)]
  simp only [sm]
  rw [ft_0 hT hz (by decide) hq, ft_0 hT hz (by decide) hq, ft_0 hT hz (by decide) hq, ft_0 hT hz (by decide) hq, ft_0 hT hz (by decide) hq, ft_0 hT hz (by decide) hq]
  rfl
theorem cst_0 {h : Nat → Nat → Int} (hz : Zr h) (s : Nat) : cst h s = 0 := by
  unfold cst
  rw [hz.nO]
  rfl
section
variable {L : Nat} {xs : Nat → Int} {d : Nat} {S S0 : AH}
theorem x_rwz {S0 : AH} : ∀ (m : Nat) (w : Int) (S : AH), D61 S0 S → GT S.2 → GW S.2 → Zr S.2 → w + m = 52 → 0 ≤ w → ∃ S', LQ (WK L xs) (ev (WK L xs) (d + 3)) 184 14 [some (vr 54), none, none, some (vi (S.2 72 2)), some (vl 0), none, some (vl 0), none, some (vi w), none, none, none] [] S = some (0, S') ∧ D61 S0 S' ∧ (∀ k : Nat, w ≤ k → k < 52 → S'.2 61 k = 0 ∧ S'.2 150 k = 0) ∧ ∀ k : Nat, (k : Int) < w → S'.2 61 k = S.2 61 k ∧ S'.2 150 k = S.2 150 k := by
  intro m
  induction m with
  | zero =>
    intro w S hD hT hW hz hw h0
    rw [q_184_14, if_neg (by omega)]
    exact ⟨S, rfl, hD, fun k h1 h2 => by omega, fun k _ => ⟨rfl, rfl⟩⟩
  | succ m ih =>
    intro w S hD hT hW hz hw h0
    have e0 : ((0 : Nat) : Int) = 0 := rfl
    have hy := (wN_bd hT).2
    have hk := x_rwk (L := L) (xs := xs) (d := d) hT hW (w := w) (by omega) 6 0 0 0 (by omega)
    have z4 : rcB (fun k => ft S.2 k w 1) 6 0 0 = 0 := rcB_0 6 0 (fun j _ hj => ft_0 hT hz (by omega) (by omega))
    have z6 : rcP (fun k => ft S.2 k w 1) 6 0 0 = 0 := rcP_0 6 0 (fun j _ hj => ft_0 hT hz (by omega) (by omega))
    rw [e0, z4, z6, hz.2.2.2 _ (by omega), show w64 (0 - 0) = 0 from by decide] at hk
    rw [q_184_14, if_pos (by omega), hk]
    have hD1 : D61 S (wr (wr S 61 w.toNat 0) 150 w.toNat 0) := (D61.wr (Or.inl rfl)).tr (D61.wr (Or.inr (Or.inr rfl)))
    obtain ⟨S', r1, r2, r3, r4⟩ := ih (w + 1) _ (hD.tr hD1) (hD1.gt hT) (hD1.gw hW) (hD1.zr hz) (by omega) (by omega)
    have e72 : (wr (wr S 61 w.toNat 0) 150 w.toNat 0).2 72 2 = S.2 72 2 := by rw [wr_c (by decide), wr_c (by decide)]
    rw [e72] at r1
    have c1 : ∀ k : Nat, (wr (wr S 61 w.toNat 0) 150 w.toNat 0).2 61 k = if k = w.toNat then 0 else S.2 61 k := fun k => by rw [wr_c (by decide), wr_f]
    have c2 : ∀ k : Nat, (wr (wr S 61 w.toNat 0) 150 w.toNat 0).2 150 k = if k = w.toNat then 0 else S.2 150 k := fun k => by rw [wr_f, wr_c (show (150 : Nat) ≠ 61 by decide)]
    refine ⟨S', r1, r2, fun k h1 h2 => ?_, fun k h1 => ?_⟩
    · by_cases q : w + 1 ≤ k
      · exact r3 k q h2
      · have := r4 k (by omega)
        rw [c1, c2, if_pos (by omega), if_pos (by omega)] at this
        exact this
    · have := r4 k (by omega)
      rw [c1, c2, if_neg (by omega), if_neg (by omega)] at this
      exact this
theorem x_reckonZ (hT : GT S.2) (hW : GW S.2) (hz : Zr S.2) : ∃ S', ev (WK L xs) (d + 4) 184 [vr 54, vl 0, vi (S.2 72 2)] S = some (0, S') ∧ D61 S S' ∧ ∀ k : Nat, wN S.2 + 1 ≤ k → k < 52 → S'.2 61 k = 0 ∧ S'.2 150 k = 0 := by
  have ht := hT
  unfold GT at ht
  have hw := (wN_bd hT).1
  obtain ⟨S', r1, r2, r3, r4⟩ := x_rwz (L := L) (xs := xs) (d := d) (S0 := S) (51 - wN S.2).toNat (wN S.2 + 1) S D61.rf hT hW hz (by omega) (by omega)
  refine ⟨S', ?_, r2, r3⟩
  rw [q_184, x_wk ht.2.1 ht.2.2, bR]
  have e3 : S.2 72 2 % 360 / 7 = wN S.2 := rfl
  rw [e3, w32e (by omega) (by omega)]
  exact r1
theorem j_fillZ : ∃ S', ev (WK L xs) (d + 1) 334 [vr 62, vl 0] S = some (0, S') ∧ S'.1 = S.1 ∧ (∀ a, a ≠ 62 → S'.2 a = S.2 a) ∧ ∀ k, k < 52 → S'.2 62 k = 0 := by
  have sh : ∀ T : AH, shp (WK L xs) T 62 = (3, 52) := fun T => rfl
  have key : ∀ (m k : Nat) (T : AH), k + m = 52 → T.1 = S.1 → (∀ a, a ≠ 62 → T.2 a = S.2 a) → (∀ j, j < k → T.2 62 j = 0) → ∃ S', LQ (WK L xs) (ev (WK L xs) d) 334 6 [some (vr 62), some (vl 0), none, some (vi (k : Int)), some (vi 52)] [] T = some (0, S') ∧ S'.1 = S.1 ∧ (∀ a, a ≠ 62 → S'.2 a = S.2 a) ∧ ∀ k, k < 52 → S'.2 62 k = 0 := by
    intro m
    induction m with
    | zero =>
      intro k T hk h1 h2 hz
      rw [q_334_6, if_neg (by omega)]
      exact ⟨T, rfl, h1, h2, fun j hj => hz j (by omega)⟩
    | succ m ih =>
      intro k T hk h1 h2 hz
      have e1 : (k : Int) + 1 = ((k + 1 : Nat) : Int) := by omega
      rw [q_334_6, if_pos (by omega), sh, show (Nat.beq (3, 52).1 3 && wokF (WK L xs) 62) = true from rfl, gdT, if_pos (by simp; omega), w32e (by omega) (by omega), e1, Int.toNat_natCast]
      refine ih (k + 1) _ (by omega) h1 (fun a ha => by rw [wr_c ha]; exact h2 a ha) (fun j hj => ?_)
      rw [wr_f]
      by_cases e : j = k
      · rw [if_pos e]
      · rw [if_neg e]
        exact hz j (by omega)
  rw [q_334, sh, show Nat.ble (3, 52).1 6 = true from rfl, gdT]
  exact key 52 0 S (by omega) rfl (fun a _ => rfl) (fun j hj => by omega)
theorem j_fdivZ : ev (WK L xs) (d + 1) 337 [vl 0, vl 1000000000] S = some (0, S) := by
  rw [q_337, if_neg (by decide), show ldiv 0 1000000000 = 0 from by decide, show lcmp (w64 (0 * 1000000000)) 0 = 0 from by decide, if_pos rfl]
  by_cases q : lcmp (lxor 0 1000000000) 0 < 0
  · rw [if_pos q]
  · rw [if_neg q]
theorem x_fsz : ∀ (m : Nat) (w : Int), w + m = 52 → 0 ≤ w → (∀ k : Nat, w ≤ k → k < 52 → S.2 61 k = 0 ∧ S.2 150 k = 0) → (∀ k : Nat, k < 52 → S.2 62 k = 0) → LQ (WK L xs) (ev (WK L xs) (d + 1)) 186 19 [some (vr 54), none, none, some (vl 0), none, some (vi w)] [] S = some (-1, S) := by
  intro m
  induction m with
  | zero =>
    intro w hw h0 hc hf
    rw [q_186_19, if_neg (by omega)]
  | succ m ih =>
    intro w hw h0 hc hf
    obtain ⟨c1, c2⟩ := hc w.toNat (by omega) (by omega)
    rw [q_186_19, if_pos (by omega), if_pos (by omega), if_pos (by omega), if_pos (by omega), c2, hf _ (by omega), show w64 (0 + 0) = 0 from by decide, show w64 (0 + 0) = 0 from by decide, j_fdivZ, bR, c1, show lcmp (w64 (0 + 0)) 0 = 0 from by decide, if_neg (by omega), w32e (by omega) (by omega)]
    exact ih (w + 1) (by omega) (by omega) (fun k h1 h2 => hc k (by omega) h2) hf
theorem x_firstZ (hD : D61 S0 S) (hT : GT S0.2) (hW : GW S0.2) (hz : Zr S0.2) {set : Nat} (hw : ∀ k : Nat, wN S0.2 + 1 ≤ k → k < 52 → S.2 61 k = 0 ∧ S.2 150 k = 0) : ∃ S', ev (WK L xs) (d + 3) 186 [vr 54, vi (set : Int), vi (S0.2 72 2)] S = some (-1, S') ∧ D61 S0 S' := by
  have ht := hT
  unfold GT at ht
  have hwb := (wN_bd hT).1
  have e3 : S0.2 72 2 % 360 / 7 = wN S0.2 := rfl
  obtain ⟨T, f1, f2, f3, f4⟩ := j_fillZ (L := L) (xs := xs) (d := d) (S := S)
  have hST : D61 S T := ⟨f2, fun a q1 q2 q3 => f3 a q2⟩
  have hDT := hD.tr hST
  have hn : T.2 54 7 = 0 := by
    rw [hDT.2 54 (by decide) (by decide) (by decide), hW.2.2.2.2.1]
    exact hz.2.1
  have u1 : LQ (WK L xs) (ev (WK L xs) (d + 1)) 187 10 [some (vr 54), some (vi (set : Int)), some (vi (wN S0.2)), some (vi 0), none, none] [] T = some (0, T) := by
    rw [q_187_10, hn, if_neg (by omega)]
  refine ⟨T, ?_, hDT⟩
  rw [q_186, x_wk ht.2.1 ht.2.2, bR, e3, q_187, f1, bR, u1, bR, x_wk ht.2.1 ht.2.2, bR, e3, w32e (by omega) (by omega)]
  exact x_fsz (51 - wN S0.2).toNat (wN S0.2 + 1) (by omega) (by omega) (fun k h1 h2 => by rw [f3 61 (by decide), f3 150 (by decide)]; exact hw k h1 h2) f4
theorem z_shortWeek (H : Inv S) (hz : Zr S.2) : Ok L xs 43 285 [] S := by
  have ht := H.gt
  unfold GT at ht
  have hc := H.gc.1
  obtain ⟨S1, a1, a2, a3⟩ := x_reckonZ (L := L) (xs := xs) (d := 195) H.gt H.gw hz
  obtain ⟨S2, b1, b2⟩ := x_firstZ (L := L) (xs := xs) (d := 196) a2 H.gt H.gw hz (set := 0) a3
  refine ⟨-1, S2, S2, ?_, ?_, b2.inv H, Gw.of b2.1⟩
  · rw [q_43, ht.1, hc, hz.1, a1, bR, a2.2 15 (by decide) (by decide) (by decide), ht.1]
    exact (congrArg (bindR · _) b1).trans rfl
  · rw [q_285]
    have := m_shortBy (L := L) (xs := xs) (d := 196) (b2.gt H.gt) (b2.gw H.gw) (set := 0) (by omega)
    rw [sht_0 (b2.gt H.gt) (b2.zr hz)] at this
    exact (congrArg (bindR · _) this).trans rfl
theorem z_judge (H : Inv S) (hz : Zr S.2) (p : Int) : Ok L xs 46 291 [vi p] S := by
  have ht := H.gt
  unfold GT at ht
  have hc := H.gc.1
  have en : S.2 54 7 = 0 := H.gw.2.2.2.2.1.trans hz.2.1
  have hn : S.2 72 87 = 0 := hz.2.1
  have e10 : ishl 1 0 = 1 := by decide
  by_cases hp : p = 0
  · subst hp
    obtain ⟨S1, a1, a2, a3⟩ := x_reckonZ (L := L) (xs := xs) (d := 195) H.gt H.gw hz
    obtain ⟨S2, b1, b2⟩ := x_firstZ (L := L) (xs := xs) (d := 196) a2 H.gt H.gw hz (set := 0) a3
    have b1' : ev (WK L xs) 199 186 [vr 54, vi 0, vi (S.2 72 2)] S1 = some (-1, S2) := b1
    have c1 := x_costOf (L := L) (xs := xs) (d := 198) (b2.gw H.gw) (set := 0) (by omega)
    have c2 := m_costOf (L := L) (xs := xs) (d := 198) (b2.gw H.gw) (set := 0) (by omega)
    have s1 := m_shortBy (L := L) (xs := xs) (d := 196) (b2.gt H.gt) (b2.gw H.gw) (set := 0) (by omega)
    have e0 : ((0 : Nat) : Int) = 0 := rfl
    rw [cst_0 (b2.zr hz), e0] at c1 c2
    rw [sht_0 (b2.gt H.gt) (b2.zr hz), e0] at s1
    refine ⟨0, S2, S2, ?_, ?_, b2.inv H, Gw.of b2.1⟩
    · rw [q_46, q_191, en, e10, if_neg (by omega), if_pos (by omega), bR, if_neg (by decide), ht.1, hc, hz.1, a1, bR, a2.2 15 (by decide) (by decide) (by decide), ht.1, b1', bR, if_pos rfl, c1, bR]
    · rw [q_291, q_195, (b2.zr hz).2.1, e10, show w32 (1 - 1) = 0 from by decide]
      simp only [lc_lt, lc_gt]
      rw [if_neg (by omega), if_neg (by omega), bR, if_neg (by decide), s1, bR, if_pos rfl, c2, bR]
  · refine Ok.same (r := -1) H ?_ ?_
    · rw [q_46, q_191, en, e10]
      by_cases h1 : p < 0
      · rw [if_pos h1, bR, if_pos rfl]
      · rw [if_neg h1, if_neg (by omega), bR, if_pos rfl]
    · rw [q_291, q_195, hn, e10, show w32 (1 - 1) = 0 from by decide]
      simp only [lc_lt, lc_gt]
      by_cases h1 : p < 0
      · rw [if_pos h1, bR, if_pos rfl]
      · rw [if_neg h1, if_pos (by omega), bR, if_pos rfl]
theorem z_plan (H : Inv S) (hz : Zr S.2) : Ok L xs 45 288 [] S := by
  have ht := H.gt
  unfold GT at ht
  have hc := H.gc.1
  have e10 : ishl 1 0 = 1 := by decide
  have e0 : ((0 : Nat) : Int) = 0 := rfl
  obtain ⟨S1, a1, a2, a3⟩ := x_reckonZ (L := L) (xs := xs) (d := 195) H.gt H.gw hz
  obtain ⟨S2, b1, b2⟩ := x_firstZ (L := L) (xs := xs) (d := 195) a2 H.gt H.gw hz (set := 0) a3
  have n1 : S1.2 54 7 = 0 := by rw [a2.2 54 (by decide) (by decide) (by decide)]; exact H.gw.2.2.2.2.1.trans hz.2.1
  have n2 : S2.2 54 7 = 0 := by rw [b2.2 54 (by decide) (by decide) (by decide)]; exact H.gw.2.2.2.2.1.trans hz.2.1
  have c1 := x_costOf (L := L) (xs := xs) (d := 197) (a2.gw H.gw) (set := 0) (by omega)
  rw [cst_0 (a2.zr hz), e0] at c1
  have b1' : ev (WK L xs) 198 186 [vr 54, vi 0, vi (S.2 72 2)] S1 = some (-1, S2) := b1
  have hx : ev (WK L xs) 199 189 [vr 54, vi (S.2 72 2)] S1 = some (0, S2) := by
    rw [q_189, q_189_7, n1, e10, if_pos (by omega), c1, bR, if_pos rfl, q_189_62, if_neg (by decide), b1', bR, if_pos rfl, show w32 (0 + 1) = 1 from by decide, q_189_7, n2, e10, if_neg (by omega)]
  refine ⟨0, S2, S2, ?_, ?_, b2.inv H, Gw.of b2.1⟩
  · rw [q_45, ht.1, hc, hz.1, a1, bR, a2.2 15 (by decide) (by decide) (by decide), ht.1, hx, bR]
  · have h2 : 2 ^ nOf S2.2 = 1 := by rw [(b2.zr hz).nO]
    have := m_pll (L := L) (xs := xs) (d := 196) (b2.gt H.gt) (b2.gw H.gw) (2 ^ nOf S2.2) 0 (-1) (by omega) (Or.inl rfl)
    rw [h2] at this
    simp only [plL] at this
    rw [if_pos ⟨Or.inl rfl, sht_0 (b2.gt H.gt) (b2.zr hz) 0⟩] at this
    rw [q_288]
    exact this
end
