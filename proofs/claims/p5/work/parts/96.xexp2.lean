/-! the class reads an expression as the descent does -/
section
variable {L : Nat} {xs : Nat → Int} {d : Nat} {S S' T U W : AH} {t : TB} {n p : Nat} {le : Int → Int} {ud : Int → Bool} {live bl : Bool}
theorem xter_ok (f o : Nat) (hf : ∀ (p : Nat) (S : AH), GS L xs t n le ud S p → CR L xs t n le ud live false S (ev (WK L xs) (d + 6) 153 [vr 22, vi (o : Int), vi (lv live)] S) (facG t n (rdE t n f) o p)) (H : GS L xs t n le ud S p) : CR L xs t n le ud live false S (ev (WK L xs) (d + 7) 152 [vr 22, vi (o : Int), vi (lv live)] S) (terG t n (rdE t n f) o p) := by
  have hw : WFp le ud (facG t n (rdE t n f) o) := facG_wf (rdE_wf f) o
  have hF := hf p S H
  unfold terG rowG
  revert hF
  rw [q_152]
  cases facG t n (rdE t n f) o p with
  | inl e =>
    intro hF hl
    obtain ⟨v, T, t1, -, t3⟩ := hF hl
    exact ⟨v, T, by rw [t1, bR]; exact terD t3.dead _ _ _ _ (by decide), bl0, t3⟩
  | inr x =>
    obtain ⟨q, g⟩ := x
    rintro ⟨v, T, t1, -, ⟨tG, tC, tv⟩ | ⟨tl, tg, tR⟩⟩
    · exact CR.of tC (by rw [t1, bR]; rfl) (xter_row f o hf 200 0 q g v T rfl tG tv)
    · exact CR.ref hw tm_3 tl (by rw [t1, bR]; exact terD tR.dead _ _ _ _ (by decide)) bl0 tR tg 200 q
theorem xexp_row (f o : Nat) (hf : ∀ (p : Nat) (S : AH), GS L xs t n le ud S p → CR L xs t n le ud live false S (ev (WK L xs) (d + 6) 153 [vr 22, vi (o : Int), vi (lv live)] S) (facG t n (rdE t n f) o p)) : ∀ (k i p : Nat) (g : CD) (v : Int) (S : AH), i + k = 200 → GS L xs t n le ud S p → (live = true → Cmp le ud g (some v)) → CR L xs t n le ud live false S (LQ (WK L xs) (ev (WK L xs) (d + 7)) 151 10 [some (vr 22), some (vi (o : Int)), some (vi (lv live)), some (vl v), none, some (vi (i : Int)), none, none, none] [] S) (rowL t n isPm (terG t n (rdE t n f) o) k p g) := by
  have hw : WFp le ud (terG t n (rdE t n f) o) := terG_wf (rdE_wf f) o
  intro k
  induction k with
  | zero =>
    intro i p g v S hi H hg
    exact ⟨v, S, by rw [q_151_10, if_neg (by first | decide | omega)], bl0, Or.inl ⟨H, Cf.rf, hg⟩⟩
  | succ k ih =>
    intro i p g v S hi H hg
    have e1 : w32 ((i : Int) + 1) = ((i + 1 : Nat) : Int) := by
      rw [w32e (by first | decide | omega) (by first | decide | omega)]
      rfl
    have s43 : S.2 22 6 = 43 ↔ cu t n p = 43 := by rw [H.2.2.2.1]; exact sgn_cu (by decide)
    have s45 : S.2 22 6 = 45 ↔ cu t n p = 45 := by rw [H.2.2.2.1]; exact sgn_cu (by decide)
    unfold rowL
    by_cases c : isPm (cu t n p) = true
    · rw [if_pos c]
      have hlt := cu_pos (t := t) (n := n) (p := p) (by have := pm_3 _ c; omega)
      obtain ⟨T, t1, t2, t3⟩ := x_step (L := L) (xs := xs) (d := d + 6) H hlt
      have hcc := of_decide_eq_true c
      have go : LQ (WK L xs) (ev (WK L xs) (d + 7)) 151 10 [some (vr 22), some (vi (o : Int)), some (vi (lv live)), some (vl v), none, some (vi (i : Int)), none, none, none] [] S = bindR (ev (WK L xs) (d + 7) 152 [vr 22, vi (o : Int), vi (lv live)] T) (fun r3 S4 => LQ (WK L xs) (ev (WK L xs) (d + 7)) 151 10 [some (vr 22), some (vi (o : Int)), some (vi (lv live)), some (vl (wkA (cu t n p) v r3)), none, some (vi ((i + 1 : Nat) : Int)), none, none, none] [] S4) := by
        rw [q_151_10, if_pos (by first | decide | omega)]
        by_cases q : cu t n p = 43
        · rw [if_pos (s43.mpr q), if_pos (s43.mpr q), q_151_50, t1, bR, e1]
          simp only [if_neg (show ¬ (1 : Int) = 0 by decide)]
          rw [q]
          rfl
        · have q5 : cu t n p = 45 := by omega
          rw [if_neg (fun z => q (s43.mp z)), if_pos (s45.mpr q5), if_neg (fun z => q (s43.mp z)), q_151_50, t1, bR, e1]
          simp only [if_pos (show (0 : Int) = 0 from rfl)]
          rw [q5]
          rfl
      have hop : ∀ a b : Int, opA (cu t n p) (some a) (some b) = some (wkA (cu t n p) a b) := fun a b => by
        show (if cu t n p = 38 then _ else if cu t n p = 124 then _ else if (cu t n p = 47 ∨ cu t n p = 37) ∧ b = 0 then none else some (wkA (cu t n p) a b)) = _
        rw [if_neg (by first | decide | omega), if_neg (by first | decide | omega), if_neg (by first | decide | omega)]
      have hF := xter_ok f o hf t2
      revert hF
      cases hp : terG t n (rdE t n f) o (p + 1) with
      | inl e =>
        intro hF hl
        obtain ⟨v2, U, u1, -, u3⟩ := hF hl
        exact ⟨_, U, by rw [go, u1, bR]; exact expD u3.dead _ _ _ _, bl0, u3.of t3⟩
      | inr x =>
        obtain ⟨q, g2⟩ := x
        rintro ⟨v2, U, u1, -, ⟨uG, uC, uv⟩ | ⟨ul, ug, uR⟩⟩
        · rw [u1, bR] at go
          exact CR.of (t3.tr uC) go (ih (i + 1) q _ _ U (by first | decide | omega) uG (fun hl => by rw [← hop]; exact (hg hl).bin (uv hl) (pm_3 _ c)))
        · rw [u1, bR, expD uR.dead] at go
          have hg3 : Cmp le ud (g ++ g2 ++ [(cu t n p, 0)]) none := by
            have := (hg ul).bin ug (pm_3 _ c)
            rw [show opA (cu t n p) (some v) none = none by
              show (if cu t n p = 38 then _ else if cu t n p = 124 then _ else none) = none
              rw [if_neg (by first | decide | omega), if_neg (by first | decide | omega)]] at this
            exact this
          exact CR.ref hw pm_3 ul go bl0 (uR.of t3) hg3 k q
    · rw [if_neg c]
      have hcc := of_decide_eq_false (nf c)
      exact ⟨v, S, by rw [q_151_10, if_pos (by first | decide | omega), if_neg (fun z => hcc (Or.inl (s43.mp z))), if_neg (fun z => hcc (Or.inr (s45.mp z)))], bl0, Or.inl ⟨H, Cf.rf, hg⟩⟩
theorem xexp_ok1 (f o : Nat) (hf : ∀ (p : Nat) (S : AH), GS L xs t n le ud S p → CR L xs t n le ud live false S (ev (WK L xs) (d + 6) 153 [vr 22, vi (o : Int), vi (lv live)] S) (facG t n (rdE t n f) o p)) (H : GS L xs t n le ud S p) : CR L xs t n le ud live false S (ev (WK L xs) (d + 8) 151 [vr 22, vi (o : Int), vi (lv live)] S) (rdE t n (f + 1) o p) := by
  have hw : WFp le ud (terG t n (rdE t n f) o) := terG_wf (rdE_wf f) o
  have hF := xter_ok f o hf H
  show CR L xs t n le ud live false S _ (rowG t n isPm (terG t n (rdE t n f) o) p)
  unfold rowG
  revert hF
  rw [q_151]
  cases terG t n (rdE t n f) o p with
  | inl e =>
    intro hF hl
    obtain ⟨v, T, t1, -, t3⟩ := hF hl
    exact ⟨v, T, by rw [t1, bR]; exact expD t3.dead _ _ _ _, bl0, t3⟩
  | inr x =>
    obtain ⟨q, g⟩ := x
    rintro ⟨v, T, t1, -, ⟨tG, tC, tv⟩ | ⟨tl, tg, tR⟩⟩
    · exact CR.of tC (by rw [t1, bR]; rfl) (xexp_row f o hf 200 0 q g v T rfl tG tv)
    · exact CR.ref hw pm_3 tl (by rw [t1, bR]; exact expD tR.dead _ _ _ _) bl0 tR tg 200 q
/-- one more is open -/
theorem x_opens (H : GS L xs t n le ud S p) (hp : p < n) (o : Nat) : (8 ≤ o → ∃ T, ev (WK L xs) (d + 2) 150 [vr 22, vi (o : Int)] S = some (0, T) ∧ FS S T (flt 5 p)) ∧ (o < 8 → ∃ T, ev (WK L xs) (d + 2) 150 [vr 22, vi (o : Int)] S = some (1, T) ∧ GS L xs t n le ud T (p + 1) ∧ Cf S T) := by
  have h200 := H.1.1
  refine ⟨fun q => ?_, fun q => ?_⟩
  · obtain ⟨T, t1, t2⟩ := x_fail (L := L) (xs := xs) (d := d) H (f := 5) (by decide) (q := p) (by first | decide | omega)
    exact ⟨T, by rw [q_150, if_neg (by first | decide | omega), H.2.2.1, t1, bR], t2⟩
  · obtain ⟨T, t1, t2, t3⟩ := x_step (L := L) (xs := xs) (d := d) H hp
    exact ⟨T, by rw [q_150, if_pos (by first | decide | omega), t1, bR], t2, t3⟩
theorem xfac_ok (f o : Nat) (ho : o ≤ 8) (he : o < 8 → ∀ (p : Nat) (S : AH), GS L xs t n le ud S p → CR L xs t n le ud live false S (ev (WK L xs) (d + 8) 151 [vr 22, vi ((o + 1 : Nat) : Int), vi (lv live)] S) (rdE t n f (o + 1) p)) (H : GS L xs t n le ud S p) : CR L xs t n le ud live false S (ev (WK L xs) (d + 9) 153 [vr 22, vi (o : Int), vi (lv live)] S) (facG t n (rdE t n f) o p) := by
  have h200 := H.1.1
  have hn := H.2.2.2.2.2.2
  have hb := sgn_b (n := n) (p := p) H.1.2.1
  have s91 : S.2 22 6 = 91 ↔ cu t n p = 91 := by rw [H.2.2.2.1]; exact sgn_cu (by decide)
  unfold facG
  by_cases c : cu t n p = 91
  · rw [if_pos c]
    have hlt := cu_pos (t := t) (n := n) (p := p) (by first | decide | omega)
    obtain ⟨o1, o2⟩ := x_opens (L := L) (xs := xs) (d := d + 6) H hlt o
    by_cases c2 : 8 ≤ o
    · rw [if_pos c2]
      obtain ⟨T, t1, t2⟩ := o1 c2
      refine CR.bad (v := 0) ?_ bl0 t2
      rw [q_153, if_pos (s91.mpr c), t1, bR, if_pos rfl, x_expectD t2.dead (by decide), bR]
    · rw [if_neg c2]
      obtain ⟨T, t1, t2, t3⟩ := o2 (by first | decide | omega)
      have go : ev (WK L xs) (d + 9) 153 [vr 22, vi (o : Int), vi (lv live)] S = bindR (ev (WK L xs) (d + 8) 151 [vr 22, vi ((o + 1 : Nat) : Int), vi (lv live)] T) (fun r11 S12 => (bindR (ev (WK L xs) (d + 8) 145 [vr 22, vi 93] S12) (fun r13 S14 => (some (r11, S14))))) := by
        rw [q_153, if_pos (s91.mpr c), t1, bR, if_neg (by decide), w32e (x := (o : Int) + 1) (by first | decide | omega) (by first | decide | omega)]
        rfl
      have hE := he (by first | decide | omega) _ _ t2
      revert hE
      cases hr : rdE t n f (o + 1) (p + 1) with
      | inl e =>
        intro hE hl
        obtain ⟨v, U, u1, -, u3⟩ := hE hl
        exact ⟨v, U, by rw [go, u1, bR, x_expectD u3.dead (by decide), bR], bl0, u3.of t3⟩
      | inr x =>
        obtain ⟨q, g⟩ := x
        rintro ⟨v, U, u1, -, ⟨uG, uC, uv⟩ | ⟨ul, ug, uR⟩⟩
        · rw [u1, bR] at go
          obtain ⟨e1, e2⟩ := x_expect (L := L) (xs := xs) (d := d + 6) uG (c := 93) (by decide)
          by_cases c3 : cu t n q = 93
          · show CR L xs t n le ud live false S _ (if cu t n q = 93 then .inr (q + 1, g) else .inl (flt 1 q))
            rw [if_pos c3]
            obtain ⟨V, v1, v2, v3⟩ := e1 c3
            exact ⟨v, V, by rw [go, v1, bR], bl0, Or.inl ⟨v2, (t3.tr uC).tr v3, uv⟩⟩
          · show CR L xs t n le ud live false S _ (if cu t n q = 93 then .inr (q + 1, g) else .inl (flt 1 q))
            rw [if_neg c3]
            obtain ⟨V, v1, v2⟩ := e2 c3
            exact CR.bad (v := v) (by rw [go, v1, bR]) bl0 (v2.of (t3.tr uC))
        · rw [u1, bR, x_expectD uR.dead (by decide), bR] at go
          show CR L xs t n le ud live false S _ (if cu t n q = 93 then .inr (q + 1, g) else .inl (flt 1 q))
          by_cases c3 : cu t n q = 93
          · rw [if_pos c3]
            exact ⟨v, U, go, bl0, Or.inr ⟨ul, ug, uR.of t3⟩⟩
          · rw [if_neg c3]
            exact fun z => absurd (z.symm.trans ul) (by decide)
  · rw [if_neg c]
    have go : ev (WK L xs) (d + 9) 153 [vr 22, vi (o : Int), vi (lv live)] S = (if ¬ dgt (cu t n p) = true then (if sgn t n p = (-1 : Int) then (LQ (WK L xs) (ev (WK L xs) (d + 8)) 153 75 [some (vr 22), none, none, none, none] [vi (-1 : Int)] S) else (bindR (ev (WK L xs) (d + 8) 323 [vr 4, vi (w16u (sgn t n p))] S) (fun r3 S4 => (LQ (WK L xs) (ev (WK L xs) (d + 8)) 153 75 [some (vr 22), none, none, none, none] [vi r3] S4)))) else (bindR (ev (WK L xs) (d + 8) 143 [vr 22, vi (999999 : Int)] S) (fun r5 S6 => (some (r5, S6))))) := by
      rw [q_153, if_neg (fun z => c (s91.mp z)), x_dig H.2.2.2.1, bR, sgn_dg, H.2.2.2.1]
      simp only [bi_0]
    by_cases c1 : dgt (cu t n p) = true
    · rw [if_pos c1]
      rw [if_neg (fun z => z c1)] at go
      have hr := x_num (L := L) (xs := xs) (d := d + 6) 999999 H
      revert hr
      cases hN : rdN t n 999999 p with
      | inl e =>
        rintro ⟨w, T, t1, t2⟩
        exact CR.bad (v := w) (by rw [go, show ev (WK L xs) (d + 8) 143 [vr 22, vi 999999] S = some (w, T) from t1, bR]) bl0 t2
      | inr x =>
        obtain ⟨q, v⟩ := x
        rintro ⟨T, t1, t2, t3⟩
        exact ⟨v, T, by rw [go, show ev (WK L xs) (d + 8) 143 [vr 22, vi 999999] S = some (v, T) from t1, bR], bl0, Or.inl ⟨t2, t3, fun _ => Cmp.num v⟩⟩
    · rw [if_neg c1]
      rw [if_pos c1] at go
      obtain ⟨F, f1, f2⟩ := x_fail (L := L) (xs := xs) (d := d + 7) H (f := 1) (by decide) (q := p) (by first | decide | omega)
      have failed : ∀ z : Int, z < 0 → LQ (WK L xs) (ev (WK L xs) (d + 8)) 153 75 [some (vr 22), none, none, none, none] [vi z] S = some (0, F) := fun z hz => by rw [q_153_75, if_pos hz, H.2.2.1, f1, bR]
      by_cases c2 : isVl (cu t n p) = true
      · rw [if_pos c2]
        have hcc := of_decide_eq_true c2
        have hlt := cu_pos (t := t) (n := n) (p := p) (by first | decide | omega)
        obtain ⟨T, t1, t2, t3⟩ := x_step (L := L) (xs := xs) (d := d + 7) H hlt
        have h8 := (w8c (c := cu t n p) (by first | decide | omega)).1 (by first | decide | omega)
        rw [cu_sgn hlt, if_neg (by first | decide | omega), w16c (by first | decide | omega), x_idx4 (by first | decide | omega), bR, h8] at go
        have fa := t2.2.1.1
        have pick : ∀ (z : Int) (k : Nat), z = (k : Int) → k < 7 → T.2 26 k = le (cu t n p) → LQ (WK L xs) (ev (WK L xs) (d + 8)) 153 75 [some (vr 22), none, none, none, none] [vi z] S = some (le (cu t n p), T) := fun z k hz hk hv => by
          rw [q_153_75, hz, if_neg (by first | decide | omega), if_pos (by first | decide | omega), t1, bR, if_pos (by first | decide | omega), Int.toNat_natCast, hv]
        refine ⟨le (cu t n p), T, ?_, bl0, Or.inl ⟨t2, t3, fun _ => Cmp.let _⟩⟩
        rw [go]
        rcases hcc with e | e | e | e | e | e | e
        · exact pick _ 0 (by rw [e]; rfl) (by decide) (by rw [e]; exact fa.1)
        · exact pick _ 1 (by rw [e]; rfl) (by decide) (by rw [e]; exact fa.2.1)
        · exact pick _ 2 (by rw [e]; rfl) (by decide) (by rw [e]; exact fa.2.2.1)
        · exact pick _ 3 (by rw [e]; rfl) (by decide) (by rw [e]; exact fa.2.2.2.1)
        · exact pick _ 4 (by rw [e]; rfl) (by decide) (by rw [e]; exact fa.2.2.2.2.1)
        · exact pick _ 5 (by rw [e]; rfl) (by decide) (by rw [e]; exact fa.2.2.2.2.2.1)
        · exact pick _ 6 (by rw [e]; rfl) (by decide) (by rw [e]; exact fa.2.2.2.2.2.2)
      · rw [if_neg c2]
        have hcc := of_decide_eq_false (nf c2)
        refine CR.bad (v := 0) ?_ bl0 f2
        by_cases q : sgn t n p = -1
        · rw [go, if_pos q, failed _ (by decide)]
        · have hlt := sgn_lt q
          have h8 := w8c (c := sgn t n p) (by first | decide | omega)
          rw [go, if_neg q, w16c (by first | decide | omega), x_idx4 (by first | decide | omega), bR]
          refine failed _ ?_
          rw [cu_sgn hlt] at h8 ⊢
          simp only [ixl]
          repeat' split
          all_goals omega
theorem xexp_ok (f : Nat) : ∀ (o p : Nat) (S : AH), o ≤ 8 → 9 ≤ f + o → GS L xs t n le ud S p → CR L xs t n le ud live false S (ev (WK L xs) (d + 3 * f + 8) 151 [vr 22, vi (o : Int), vi (lv live)] S) (rdE t n f o p) := by
  induction f with
  | zero =>
    intro o p S h1 h2
    omega
  | succ f ih =>
    intro o p S h1 h2 H
    have e : d + 3 * (f + 1) + 8 = (d + 3 * f + 3) + 8 := by omega
    rw [e]
    refine xexp_ok1 (d := d + 3 * f + 3) f o (fun p S hG => ?_) H
    exact xfac_ok (d := d + 3 * f) f o h1 (fun h8 p S hG => ih (o + 1) p S (by first | decide | omega) (by first | decide | omega) hG) hG
end
