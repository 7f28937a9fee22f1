/-! the chest by weeks, as the class reckons it -/
noncomputable def D61 (S S' : AH) : Prop := S'.1 = S.1 ∧ ∀ a, a ≠ 61 → a ≠ 62 → a ≠ 150 → S'.2 a = S.2 a
theorem D61.rf {S : AH} : D61 S S := ⟨rfl, fun _ _ _ _ => rfl⟩
theorem D61.tr {S T U : AH} (h : D61 S T) (k : D61 T U) : D61 S U := ⟨k.1.trans h.1, fun a q1 q2 q3 => (k.2 a q1 q2 q3).trans (h.2 a q1 q2 q3)⟩
theorem D61.wr {S : AH} {a k : Nat} {v : Int} (h : a = 61 ∨ a = 62 ∨ a = 150) : D61 S (wr S a k v) := ⟨rfl, fun b q1 q2 q3 => wr_c (by first | decide | omega)⟩
theorem D61.gt {S S' : AH} (h : D61 S S') (H : GT S.2) : GT S'.2 := H.fr (by rw [h.2 15 (by decide) (by decide) (by decide)]) (by rw [h.2 72 (by decide) (by decide) (by decide)])
theorem D61.gw {S S' : AH} (h : D61 S S') (H : GW S.2) : GW S'.2 := H.fr (by rw [h.2 72 (by decide) (by decide) (by decide)]) (by rw [h.2 72 (by decide) (by decide) (by decide)]) (by rw [h.2 54 (by decide) (by decide) (by decide)]) (by rw [h.2 54 (by decide) (by decide) (by decide)]) (fun a ha => h.2 a (by first | decide | omega) (by first | decide | omega) (by first | decide | omega))
theorem D61.inv {S S' : AH} (h : D61 S S') (H : Inv S) : Inv S' := by
  refine H.scr ⟨by rw [h.1]; exact Nat.le_refl _, fun a h1 h2 => ⟨by rw [h.1], h.2 a (by first | decide | omega) (by first | decide | omega) (by first | decide | omega)⟩⟩ (fun a k _ hs => ?_)
  rw [h.2 a (fun z => hs (by unfold scr; omega)) (fun z => hs (by unfold scr; omega)) (fun z => hs (by unfold scr; omega))]
theorem D61.spec {S S' : AH} (h : D61 S S') : nOf S'.2 = nOf S.2 ∧ wN S'.2 = wN S.2 ∧ yN S'.2 = yN S.2 ∧ ft S'.2 = ft S.2 ∧ inc S'.2 = inc S.2 ∧ ofT S'.2 = ofT S.2 ∧ ofr S'.2 = ofr S.2 ∧ sht S'.2 = sht S.2 ∧ cst S'.2 = cst S.2 := by
  have c72 := h.2 72 (by decide) (by decide) (by decide)
  have e1 : nOf S'.2 = nOf S.2 := by unfold nOf; rw [c72]
  have e2 : wN S'.2 = wN S.2 := by unfold wN; rw [c72]
  have e3 : yN S'.2 = yN S.2 := by unfold yN; rw [c72]
  have e4 : cme S'.2 = cme S.2 := by funext k y w; unfold cme; rw [h.2 133 (by decide) (by decide) (by decide)]
  have e5 : ft S'.2 = ft S.2 := by funext k w x; unfold ft; rw [e2, e3, e4]
  have e6 : inc S'.2 = inc S.2 := by funext w; unfold inc; rw [e5, e3, h.2 134 (by decide) (by decide) (by decide)]
  have e7 : ofT S'.2 = ofT S.2 := by
    funext s w o
    unfold ofT
    rw [e2, h.2 135 (by decide) (by decide) (by decide), h.2 136 (by decide) (by decide) (by decide), h.2 137 (by decide) (by decide) (by decide), h.2 138 (by decide) (by decide) (by decide)]
  have e8 : ofr S'.2 = ofr S.2 := by funext s w; unfold ofr; rw [e7, e1]
  refine ⟨e1, e2, e3, e5, e6, e7, e8, ?_, ?_⟩
  · funext s
    unfold sht
    rw [e6, e8, e2, c72]
  · funext s
    unfold cst
    rw [e1, h.2 138 (by decide) (by decide) (by decide)]
/-- the sums of a week's spans: billions, pence -/
noncomputable def rcB (g : Nat → Int) : Nat → Nat → Int → Int
  | 0, _, x => x
  | m + 1, k, x => rcB g m (k + 1) (w64 (x + ldiv (g k) 1000000000))
noncomputable def rcP (g : Nat → Int) : Nat → Nat → Int → Int
  | 0, _, x => x
  | m + 1, k, x => rcP g m (k + 1) (w64 (x + Int.tmod (g k) 1000000000))
section
variable {L : Nat} {xs : Nat → Int} {d : Nat} {S : AH}
theorem x_dueIn (hW : GW S.2) {y w : Int} (hy : 0 ≤ y ∧ y < 10) (hw : 0 ≤ w ∧ w < 52) : ev (WK L xs) (d + 2) 185 [vr 54, vi y, vi w] S = some (S.2 134 (52 * y + w).toNat, S) := by
  rw [q_185]
  simp only [x_isYear, x_isWeek, bR, bi_0]
  rw [if_neg (fun z => z hy), if_neg (fun z => z hw), w32e (x := y * 52) (by first | decide | omega) (by first | decide | omega), w32e (by first | decide | omega) (by first | decide | omega), if_pos (by first | decide | omega), show y * 52 + w = 52 * y + w by omega, hW.2.2.1 _ (by first | decide | omega)]
theorem x_rwk (hT : GT S.2) (hW : GW S.2) {w : Int} (hw : 0 ≤ w ∧ w < 52) : ∀ (m k : Nat) (x z : Int), k + m = 6 → LQ (WK L xs) (ev (WK L xs) (d + 3)) 184 24 [some (vr 54), none, none, some (vi (S.2 72 2)), some (vl x), none, some (vl z), none, some (vi w), some (vi (k : Int)), none, none] [] S = LQ (WK L xs) (ev (WK L xs) (d + 3)) 184 14 [some (vr 54), none, none, some (vi (S.2 72 2)), some (vl (rcB (fun k => ft S.2 k w 1) m k x)), none, some (vl (w64 (rcP (fun k => ft S.2 k w 1) m k z - S.2 134 (52 * yN S.2 + w).toNat))), none, some (vi (w + 1)), none, none, none] [] (wr (wr S 61 w.toNat (rcB (fun k => ft S.2 k w 1) m k x)) 150 w.toNat (w64 (rcP (fun k => ft S.2 k w 1) m k z - S.2 134 (52 * yN S.2 + w).toNat))) := by
  have hy := (wN_bd hT).2
  have ht := hT
  unfold GT at ht
  intro m
  induction m with
  | zero =>
    intro k x z hk
    have e : k = 6 := by omega
    subst e
    have e1 : S.2 72 2 / 360 = yN S.2 := rfl
    rw [q_184_24, if_neg (by first | decide | omega), x_yr ht.2.1 ht.2.2, bR, e1, x_dueIn hW hy hw, bR, if_pos (by first | decide | omega), if_pos (by first | decide | omega), w32e (by first | decide | omega) (by first | decide | omega)]
    rfl
  | succ m ih =>
    intro k x z hk
    have e1 : (k : Int) + 1 = ((k + 1 : Nat) : Int) := by omega
    rw [q_184_24, if_pos (by first | decide | omega), x_foreseen hT hW (by first | decide | omega) hw (by first | decide | omega), bR, w32e (x := (k : Int) + 1) (by first | decide | omega) (by first | decide | omega), e1, ih (k + 1) _ _ (by first | decide | omega)]
    rfl
theorem x_rww {S0 : AH} : ∀ (m : Nat) (w a b : Int) (S : AH), D61 S0 S → GT S.2 → GW S.2 → w + m = 52 → 0 ≤ w → ∃ S', LQ (WK L xs) (ev (WK L xs) (d + 3)) 184 14 [some (vr 54), none, none, some (vi (S.2 72 2)), some (vl a), none, some (vl b), none, some (vi w), none, none, none] [] S = some (0, S') ∧ D61 S0 S' := by
  intro m
  induction m with
  | zero =>
    intro w a b S hD hT hW hw h0
    rw [q_184_14, if_neg (by first | decide | omega)]
    exact ⟨S, rfl, hD⟩
  | succ m ih =>
    intro w a b S hD hT hW hw h0
    have e0 : ((0 : Nat) : Int) = 0 := rfl
    have hk := x_rwk (L := L) (xs := xs) (d := d) hT hW (w := w) (by first | decide | omega) 6 0 a b (by first | decide | omega)
    rw [e0] at hk
    rw [q_184_14, if_pos (by first | decide | omega), hk]
    generalize rcB (fun k => ft S.2 k w 1) 6 0 a = y4
    generalize w64 (rcP (fun k => ft S.2 k w 1) 6 0 b - S.2 134 (52 * yN S.2 + w).toNat) = y6
    have hD1 : D61 S (wr (wr S 61 w.toNat y4) 150 w.toNat y6) := (D61.wr (Or.inl rfl)).tr (D61.wr (Or.inr (Or.inr rfl)))
    obtain ⟨S', r1, r2⟩ := ih (w + 1) y4 y6 _ (hD.tr hD1) (hD1.gt hT) (hD1.gw hW) (by first | decide | omega) (by first | decide | omega)
    have e72 : (wr (wr S 61 w.toNat y4) 150 w.toNat y6).2 72 2 = S.2 72 2 := by rw [wr_c (by decide), wr_c (by decide)]
    rw [e72] at r1
    exact ⟨S', r1, r2⟩
theorem x_reckonWorst (hT : GT S.2) (hW : GW S.2) (a : Int) : ∃ S', ev (WK L xs) (d + 4) 184 [vr 54, vl a, vi (S.2 72 2)] S = some (0, S') ∧ D61 S S' := by
  have ht := hT
  unfold GT at ht
  have hw := (wN_bd hT).1
  obtain ⟨S', r1, r2⟩ := x_rww (L := L) (xs := xs) (d := d) (S0 := S) (51 - wN S.2).toNat (wN S.2 + 1) 0 a S D61.rf hT hW (by first | decide | omega) (by first | decide | omega)
  refine ⟨S', ?_, r2⟩
  rw [q_184, x_wk ht.2.1 ht.2.2, bR]
  have e3 : S.2 72 2 % 360 / 7 = wN S.2 := rfl
  rw [e3, w32e (by first | decide | omega) (by first | decide | omega)]
  exact r1
theorem j_fill : ∃ S', ev (WK L xs) (d + 1) 334 [vr 62, vl 0] S = some (0, S') ∧ D61 S S' ∧ S'.2 61 = S.2 61 ∧ ∀ k, k < 52 → S'.2 62 k = 0 := by
  have sh : ∀ T : AH, shp (WK L xs) T 62 = (3, 52) := fun T => rfl
  have key : ∀ (m k : Nat) (T : AH), k + m = 52 → D61 S T → T.2 61 = S.2 61 → (∀ j, j < k → T.2 62 j = 0) → ∃ S', LQ (WK L xs) (ev (WK L xs) d) 334 6 [some (vr 62), some (vl 0), none, some (vi (k : Int)), some (vi 52)] [] T = some (0, S') ∧ D61 S S' ∧ S'.2 61 = S.2 61 ∧ ∀ k, k < 52 → S'.2 62 k = 0 := by
    intro m
    induction m with
    | zero =>
      intro k T hk hD h61 hz
      rw [q_334_6, if_neg (by first | decide | omega)]
      exact ⟨T, rfl, hD, h61, fun j hj => hz j (by first | decide | omega)⟩
    | succ m ih =>
      intro k T hk hD h61 hz
      have e1 : (k : Int) + 1 = ((k + 1 : Nat) : Int) := by omega
      rw [q_334_6, if_pos (by first | decide | omega), sh, show (Nat.beq (3, 52).1 3 && wokF (WK L xs) 62) = true from rfl, gdT, if_pos (by simp; omega), w32e (by first | decide | omega) (by first | decide | omega), e1, Int.toNat_natCast]
      refine ih (k + 1) _ (by first | decide | omega) (hD.tr (D61.wr (Or.inr (Or.inl rfl)))) (by rw [wr_c (by decide)]; exact h61) (fun j hj => ?_)
      rw [wr_f]
      by_cases e : j = k
      · rw [if_pos e]
      · rw [if_neg e]
        exact hz j (by first | decide | omega)
  rw [q_334, sh, show Nat.ble (3, 52).1 6 = true from rfl, gdT]
  exact key 52 0 S (by first | decide | omega) D61.rf rfl (fun j hj => by omega)
theorem x_flow {S0 : AH} {set : Nat} (hs : set < 512) : ∀ (m o : Nat) (S : AH), D61 S0 S → GT S.2 → GW S.2 → o + m = nOf S0.2 → (∀ k : Nat, k < 52 → S.2 62 k = w64 (sm (ofT S0.2 set k) o)) → ∃ S', LQ (WK L xs) (ev (WK L xs) (d + 1)) 187 10 [some (vr 54), some (vi (set : Int)), some (vi (wN S0.2)), some (vi (o : Int)), none, none] [] S = some (0, S') ∧ D61 S0 S' ∧ S'.2 61 = S.2 61 ∧ ∀ k : Nat, k < 52 → S'.2 62 k = w64 (ofr S0.2 set k) := by
  intro m
  induction m with
  | zero =>
    intro o S hD hT hW ho hf
    obtain ⟨z1, z2, z3, z4, z5, z6, z7, z8, z9⟩ := hD.spec
    obtain ⟨hn, hn9⟩ := hW.n
    rw [q_187_10, hW.2.2.2.2.1, hn, z1, if_neg (by first | decide | omega)]
    refine ⟨S, rfl, hD, rfl, fun k hk => ?_⟩
    have e : o = nOf S0.2 := by omega
    rw [hf k hk, e]
    rfl
  | succ m ih =>
    intro o S hD hT hW ho hf
    obtain ⟨z1, z2, z3, z4, z5, z6, z7, z8, z9⟩ := hD.spec
    obtain ⟨hn, hn9⟩ := hW.n
    rw [z1] at hn hn9
    have e1 : (o : Int) + 1 = ((o + 1 : Nat) : Int) := by omega
    obtain ⟨⟨v1, v2, v3, v4⟩, g1, g2, g3, g4⟩ := hW.2.2.2.2.2 o (by first | decide | omega)
    have c135 := congrFun (hD.2 135 (by decide) (by decide) (by decide)) o
    have c136 := congrFun (hD.2 136 (by decide) (by decide) (by decide)) o
    have c137 := congrFun (hD.2 137 (by decide) (by decide) (by decide)) o
    have c138 := congrFun (hD.2 138 (by decide) (by decide) (by decide)) o
    rw [q_187_10, hW.2.2.2.2.1, hn, if_pos (by first | decide | omega), if_pos (by first | decide | omega), of_bit hs (by first | decide | omega), w32e (x := (o : Int) + 1) (by first | decide | omega) (by first | decide | omega), e1, Int.toNat_natCast]
    have hskip : (∀ k : Nat, k < 52 → ofT S0.2 set k o = 0) → ∃ S', LQ (WK L xs) (ev (WK L xs) (d + 1)) 187 10 [some (vr 54), some (vi (set : Int)), some (vi (wN S0.2)), some (vi ((o + 1 : Nat) : Int)), none, none] [] S = some (0, S') ∧ D61 S0 S' ∧ S'.2 61 = S.2 61 ∧ ∀ k : Nat, k < 52 → S'.2 62 k = w64 (ofr S0.2 set k) := by
      intro hz
      refine ih (o + 1) S hD hT hW (by first | decide | omega) (fun k hk => ?_)
      rw [hf k hk, sm_su (ofT S0.2 set k) o, hz k hk, Int.add_zero]
    cases hb : set.testBit o with
    | false =>
      rw [if_pos (by simp)]
      refine hskip (fun k _ => ?_)
      unfold ofT
      rw [hb, if_neg (by simp)]
    | true =>
      rw [if_neg (by simp), v2]
      by_cases h1 : wN S0.2 < S.2 136 o
      · rw [if_pos h1, x_isWeek, bR]
        simp only [bi_0]
        rw [if_neg (by first | decide | omega), if_pos (by first | decide | omega), if_pos (by first | decide | omega), if_pos (by first | decide | omega), if_pos (by first | decide | omega), v1, v3]
        obtain ⟨p, hp⟩ := Int.eq_ofNat_of_zero_le g2.1
        rw [hp, Int.toNat_natCast]
        have hfp := hf p (by first | decide | omega)
        rw [hfp, w64_al, w32e (x := (p : Int) + S.2 137 o) (by first | decide | omega) (by first | decide | omega)]
        have hv : ∀ k : Nat, ofT S0.2 set k o = (if p = k then S.2 135 o else 0) - (if (p : Int) + S.2 137 o = k then S.2 135 o + S.2 138 o else 0) := by
          intro k
          unfold ofT
          rw [← c135, ← c136, ← c137, ← c138, if_pos ⟨hb, h1⟩, hp]
          congr 1
          by_cases q : p = k
          · rw [if_pos (by first | decide | omega), if_pos q]
          · rw [if_neg (by first | decide | omega), if_neg q]
        rw [x_isWeek, bR]
        simp only [bi_0]
        by_cases h2 : (p : Int) + S.2 137 o < 52
        · obtain ⟨b, hbk⟩ := Int.eq_ofNat_of_zero_le (show 0 ≤ (p : Int) + S.2 137 o by omega)
          rw [if_neg (by first | decide | omega), if_pos (by first | decide | omega), if_pos (by first | decide | omega), if_pos (by first | decide | omega), if_pos (by first | decide | omega), wr_c (show (57 : Nat) ≠ 62 by decide), wr_c (show (60 : Nat) ≠ 62 by decide), v1, v4, hbk, Int.toNat_natCast, w64e (x := S.2 135 o + S.2 138 o) (by first | decide | omega) (by first | decide | omega), wr_f, if_neg (show ¬ b = p by omega), hf b (by first | decide | omega), w64_sl]
          have hD2 : D61 S (wr (wr S 62 p (w64 (sm (ofT S0.2 set p) o + S.2 135 o))) 62 b (w64 (sm (ofT S0.2 set b) o - (S.2 135 o + S.2 138 o)))) := (D61.wr (Or.inr (Or.inl rfl))).tr (D61.wr (Or.inr (Or.inl rfl)))
          obtain ⟨S', r1, r2, r3, r4⟩ := ih (o + 1) _ (hD.tr hD2) (hD2.gt hT) (hD2.gw hW) (by first | decide | omega) (fun k hk => by
            rw [wr_f, sm_su (ofT S0.2 set k) o, hv k]
            by_cases q1 : k = b
            · subst q1
              rw [if_pos rfl, if_neg (show ¬ p = k by omega), if_pos hbk]
              congr 1
              omega
            · rw [if_neg q1, wr_f, if_neg (show ¬ (p : Int) + S.2 137 o = k by omega)]
              by_cases q2 : k = p
              · subst q2
                rw [if_pos rfl, if_pos rfl]
                congr 1
                omega
              · rw [if_neg q2, if_neg (show ¬ p = k by omega), hf k hk]
                congr 1
                omega)
          refine ⟨S', r1, r2, ?_, r4⟩
          rw [r3, wr_c (by decide), wr_c (by decide)]
        · rw [if_pos (by first | decide | omega)]
          have hD2 : D61 S (wr S 62 p (w64 (sm (ofT S0.2 set p) o + S.2 135 o))) := D61.wr (Or.inr (Or.inl rfl))
          obtain ⟨S', r1, r2, r3, r4⟩ := ih (o + 1) _ (hD.tr hD2) (hD2.gt hT) (hD2.gw hW) (by first | decide | omega) (fun k hk => by
            rw [wr_f, sm_su (ofT S0.2 set k) o, hv k, if_neg (show ¬ (p : Int) + S.2 137 o = k by omega)]
            by_cases q2 : k = p
            · subst q2
              rw [if_pos rfl, if_pos rfl]
              congr 1
              omega
            · rw [if_neg q2, if_neg (show ¬ p = k by omega), hf k hk]
              congr 1
              omega)
          refine ⟨S', r1, r2, ?_, r4⟩
          rw [r3, wr_c (by decide)]
      · rw [if_neg h1]
        refine hskip (fun k _ => ?_)
        unfold ofT
        rw [← c136, if_neg (fun z => h1 z.2)]
end
