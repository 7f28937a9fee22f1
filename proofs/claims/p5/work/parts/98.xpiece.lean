/-! the class reads a piece as the descent does -/
section
variable {L : Nat} {xs : Nat → Int} {d : Nat} {S S' T U W : AH} {t : TB} {n p : Nat} {le : Int → Int} {ud : Int → Bool} {live bl : Bool}
theorem xpie_ok (f : Nat) : ∀ (d o p : Nat) (live : Bool) (S : AH), 1 ≤ o ∧ o ≤ 8 → 9 ≤ f + o → GS L xs t n le ud S p → CR L xs t n le ud live true S (ev (WK L xs) (d + 3 * f + 40) 149 [vr 22, vi (o : Int), vi (lv live)] S) (rdP t n f o p) := by
  induction f with
  | zero =>
    intro d o p live S h1 h2
    omega
  | succ f ih =>
    intro d o p live S ho h9 H
    show CR L xs t n le ud live true S _ (pieG t n (rdP t n f) (fun o p => cndG t n (rdP t n f o) p) o p)
    have h200 := H.1.1
    have hn := H.2.2.2.2.2.2
    have s33 : S.2 22 6 = 33 ↔ cu t n p = 33 := by rw [H.2.2.2.1]; exact sgn_cu (by decide)
    have s40 : S.2 22 6 = 40 ↔ cu t n p = 40 := by rw [H.2.2.2.1]; exact sgn_cu (by decide)
    have s117 : S.2 22 6 = 117 ↔ cu t n p = 117 := by rw [H.2.2.2.1]; exact sgn_cu (by decide)
    have eo : w32 ((o : Int) + 1) = ((o + 1 : Nat) : Int) := by
      rw [w32e (by first | decide | omega) (by first | decide | omega)]
      rfl
    unfold pieG
    by_cases c1 : cu t n p = 33
    · rw [if_pos c1]
      have hlt := cu_pos (t := t) (n := n) (p := p) (by first | decide | omega)
      obtain ⟨o1, o2⟩ := x_opens (L := L) (xs := xs) (d := d + 3 * f + 40) H hlt o
      rw [show d + 3 * (f + 1) + 40 = (d + 3 * f + 42) + 1 by omega, q_149, if_pos (s33.mpr c1)]
      by_cases c2 : 8 ≤ o
      · rw [if_pos c2]
        obtain ⟨T, t1, t2⟩ := o1 c2
        exact CR.bad (v := 0) (by rw [t1, bR, if_pos rfl]) (fun _ => Or.inl rfl) t2
      · rw [if_neg c2]
        obtain ⟨T, t1, t2, t3⟩ := o2 (by first | decide | omega)
        rw [t1, bR, if_neg (by decide), eo]
        have hE := ih (d + 2) (o + 1) (p + 1) live T (by first | decide | omega) (by first | decide | omega) t2
        rw [show d + 2 + 3 * f + 40 = d + 3 * f + 42 by omega] at hE
        revert hE
        cases hr : rdP t n f (o + 1) (p + 1) with
        | inl e =>
          intro hE hl
          obtain ⟨v, U, u1, u2, u3⟩ := hE hl
          rw [u1, bR]
          by_cases q : v = 0
          · exact ⟨1, U, by rw [if_pos q], fun _ => Or.inr rfl, u3.of t3⟩
          · exact ⟨0, U, by rw [if_neg q], fun _ => Or.inl rfl, u3.of t3⟩
        | inr x =>
          obtain ⟨q, g⟩ := x
          rintro ⟨v, U, u1, u2, ⟨uG, uC, uv⟩ | ⟨ul, ug, uR⟩⟩
          · rw [u1, bR]
            refine ⟨1 - v, U, ?_, fun _ => ?_, Or.inl ⟨uG, t3.tr uC, fun hl => by
              have hw : w64 (1 - v) = 1 - v := by
                rcases u2 rfl with q | q <;> rw [q] <;> decide
              have := (uv hl).neg
              rw [show (some v : Option Int).map (fun v => w64 (1 - v)) = some (1 - v) from congrArg some hw] at this
              exact this⟩⟩
            · rcases u2 rfl with q | q
              · rw [if_pos q, q]
                rfl
              · rw [if_neg (by first | decide | omega), q]
                rfl
            · rcases u2 rfl with q | q
              · exact Or.inr (by first | decide | omega)
              · exact Or.inl (by first | decide | omega)
          · rw [u1, bR]
            refine ⟨1 - v, U, ?_, fun _ => ?_, Or.inr ⟨ul, ug.neg, uR.of t3⟩⟩
            · rcases u2 rfl with q | q
              · rw [if_pos q, q]
                rfl
              · rw [if_neg (by first | decide | omega), q]
                rfl
            · rcases u2 rfl with q | q
              · exact Or.inr (by first | decide | omega)
              · exact Or.inl (by first | decide | omega)
    rw [if_neg c1]
    by_cases c3 : cu t n p = 40
    · rw [if_pos c3]
      have hlt := cu_pos (t := t) (n := n) (p := p) (by first | decide | omega)
      obtain ⟨o1, o2⟩ := x_opens (L := L) (xs := xs) (d := d + 3 * f + 40) H hlt o
      rw [show d + 3 * (f + 1) + 40 = (d + 3 * f + 42) + 1 by omega, q_149, if_neg (fun z => c1 (s33.mp z)), if_pos (s40.mpr c3)]
      by_cases c2 : 8 ≤ o
      · rw [if_pos c2]
        obtain ⟨T, t1, t2⟩ := o1 c2
        exact CR.bad (v := 0) (by rw [t1, bR, if_pos rfl, x_expectD t2.dead (by decide), bR]) (fun _ => Or.inl rfl) t2
      · rw [if_neg c2]
        obtain ⟨T, t1, t2, t3⟩ := o2 (by first | decide | omega)
        rw [t1, bR, if_neg (by decide), eo]
        have hE := xcnd_ok (L := L) (xs := xs) (d := d + 3 * f + 39) (o := ((o + 1 : Nat) : Int)) (live := live) (rdP_wf (le := le) (ud := ud) f (o + 1)) (fun l p S hG => ih d (o + 1) p l S (by first | decide | omega) (by first | decide | omega) hG) t2
        revert hE
        dsimp only
        have v01 : ∀ (v : Int) (X : AH), (v = 0 ∨ v = 1) → (if v = 0 then (some ((0 : Int), X) : Rs) else some (1, X)) = some (v, X) := fun v X hv => by
          rcases hv with q | q
          · rw [if_pos q, q]
          · rw [if_neg (by first | decide | omega), q]
        cases hr : cndG t n (rdP t n f (o + 1)) (p + 1) with
        | inl e =>
          intro hE hl
          obtain ⟨v, U, u1, u2, u3⟩ := hE hl
          refine ⟨v, U, ?_, u2, u3.of t3⟩
          rw [u1, bR]
          simp only [x_expectD u3.dead (show (0 : Int) < 41 by decide), bR]
          exact v01 v U (u2 rfl)
        | inr x =>
          obtain ⟨q, g⟩ := x
          rintro ⟨v, U, u1, u2, ⟨uG, uC, uv⟩ | ⟨ul, ug, uR⟩⟩
          · rw [u1, bR]
            obtain ⟨e1, e2⟩ := x_expect (L := L) (xs := xs) (d := d + 3 * f + 40) uG (c := 41) (by decide)
            show CR L xs t n le ud live true S _ (if cu t n q = 41 then .inr (q + 1, g) else .inl (flt 1 q))
            by_cases c4 : cu t n q = 41
            · rw [if_pos c4]
              obtain ⟨V, v1, v2, v3⟩ := e1 c4
              refine ⟨v, V, ?_, u2, Or.inl ⟨v2, (t3.tr uC).tr v3, uv⟩⟩
              simp only [v1, bR]
              exact v01 v V (u2 rfl)
            · rw [if_neg c4]
              obtain ⟨V, v1, v2⟩ := e2 c4
              refine CR.bad (v := v) ?_ u2 (v2.of (t3.tr uC))
              simp only [v1, bR]
              exact v01 v V (u2 rfl)
          · rw [u1, bR]
            show CR L xs t n le ud live true S _ (if cu t n q = 41 then .inr (q + 1, g) else .inl (flt 1 q))
            by_cases c4 : cu t n q = 41
            · rw [if_pos c4]
              refine ⟨v, U, ?_, u2, Or.inr ⟨ul, ug, uR.of t3⟩⟩
              simp only [x_expectD uR.dead (show (0 : Int) < 41 by decide), bR]
              exact v01 v U (u2 rfl)
            · rw [if_neg c4]
              exact fun z => absurd (z.symm.trans ul) (by decide)
    rw [if_neg c3]
    by_cases c5 : cu t n p = 117
    · rw [if_pos c5]
      have hlt := cu_pos (t := t) (n := n) (p := p) (by first | decide | omega)
      obtain ⟨T, t1, t2, t3⟩ := x_step (L := L) (xs := xs) (d := d + 3 * f + 41) H hlt
      rw [show d + 3 * (f + 1) + 40 = (d + 3 * f + 42) + 1 by omega, q_149, if_neg (fun z => c1 (s33.mp z)), if_neg (fun z => c3 (s40.mp z)), if_pos (s117.mpr c5), t1, bR]
      have hr := x_num (L := L) (xs := xs) (d := d + 3 * f + 40) 39 t2
      revert hr
      cases hN : rdN t n 39 (p + 1) with
      | inl e =>
        rintro ⟨w, U, u1, u2⟩
        rw [show ev (WK L xs) (d + 3 * f + 42) 143 [vr 22, vi 39] T = some (w, U) from u1, bR, ite_bin]
        exact CR.bad rfl biv (u2.of t3)
      | inr x =>
        obtain ⟨q, v⟩ := x
        rintro ⟨U, u1, u2, u3⟩
        have hv := rdN_v hN
        rw [show ev (WK L xs) (d + 3 * f + 42) 143 [vr 22, vi 39] T = some (v, U) from u1, bR, ite_bin]
        refine ⟨_, U, rfl, biv, Or.inl ⟨u2, t3.tr u3, fun _ => ?_⟩⟩
        have := t2.2.1.2 v hv.1 hv.2
        have e : bi (¬ lcmp (land (lushr (T.2 22 11) v) 1) 0 = 0) = if ud v then 1 else 0 := by
          by_cases z : ud v = true
          · have h0 : ¬ lcmp (land (lushr (T.2 22 11) v) 1) 0 = 0 := fun y => by rw [this.mp y] at z; exact absurd z (by decide)
            rw [if_pos z, bi_T h0]
          · have h0 : lcmp (land (lushr (T.2 22 11) v) 1) 0 = 0 := this.mpr (nf z)
            rw [if_neg z]
            exact bi_0.mpr (fun y => y h0)
        rw [e]
        exact Cmp.und hv.1
    · rw [if_neg c5]
      rw [show d + 3 * (f + 1) + 40 = (d + 3 * f + 7) + 36 by omega]
      exact xcmp_ok o ho H c1 c3 c5
/-- a condition behind its bracket -/
theorem xrdC (H : GS L xs t n le ud S p) : CR L xs t n le ud live true S (ev (WK L xs) (d + 69) 147 [vr 22, vi 1, vi (lv live)] S) (rdC t n p) := by
  unfold rdC
  exact xcnd_ok (d := d + 66) (o := 1) (rdP_wf 9 1) (fun l p S hG => xpie_ok 9 d 1 p l S (by decide) (by decide) hG) H
/-- a condition where nothing more is read -/
theorem xrdCD (D : Dead S) (l : Int) : ∃ v, ev (WK L xs) (d + 12) 147 [vr 22, vi 1, vi l] S = some (v, S) := by
  have hT : ev (WK L xs) (d + 8) 152 [vr 22, vi 1, vi l] S = some (0, S) := by
    rw [q_152, q_153, D.1, if_neg (by decide), x_digD D, bR, if_pos rfl, D.1, if_pos rfl, q_153_75, if_pos (by decide), x_failD D, bR, bR]
    exact terD D _ _ _ _ (by decide)
  have hE : ev (WK L xs) (d + 9) 151 [vr 22, vi 1, vi l] S = some (0, S) := by
    rw [q_151, hT, bR]
    exact expD D _ _ _ _
  have hP : ev (WK L xs) (d + 10) 149 [vr 22, vi 1, vi l] S = some (0, S) := by
    rw [q_149, D.1, if_neg (by decide), if_neg (by decide), if_neg (by decide), hE, bR, x_next6 D.1 (by decide), bR, bi_F (by decide), if_pos rfl, x_failD D, bR]
  have hA : ev (WK L xs) (d + 11) 148 [vr 22, vi 1, vi l] S = some (0, S) := by
    rw [q_148, hP, bR]
    exact parD D _ _ _ _ (Or.inl rfl)
  refine ⟨0, ?_⟩
  rw [q_147, hA, bR]
  exact cndD D _ _ _ _ (Or.inl rfl)
end
