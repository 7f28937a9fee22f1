/-! the reference reads and keeps a text -/
noncomputable def RTc (S : AH) (x : TXT) : Prop := S.2 72 21 = x.length ∧ x.length ≤ 16 ∧ ∀ (j : Nat) (q : Nat × CL), x[j]? = some q → S.2 86 j = q.2.1 ∧ S.2 87 j = q.2.2.1 ∧ S.2 88 j = q.2.2.2.1 ∧ S.2 89 j = (cds x j).length ∧ S.2 90 j = (cds x (j + 1)).length
noncomputable def RTf (S : AH) (x : TXT) : Prop := RTc S x ∧ S.2 72 22 = (cds x x.length).length ∧ (cds x x.length).length ≤ 200 ∧ ∀ (i : Nat) (q : Int × Int), (cds x x.length)[i]? = some q → S.2 91 i = q.1 ∧ S.2 92 i = q.2
noncomputable def Tf (S S' : AH) : Prop := S'.1 = S.1 ∧ (∀ a, a ≠ 72 → ¬ (86 ≤ a ∧ a ≤ 93) → S'.2 a = S.2 a) ∧ ∀ k, k ≠ 1 → ¬ (18 ≤ k ∧ k ≤ 26) → k ≠ 35 → S'.2 72 k = S.2 72 k
section
variable {L : Nat} {xs : Nat → Int} {d : Nat} {S S' T U W : AH} {t : TB} {n p : Nat} {cd : CD} {st pd : List Int} {x : TXT}
theorem cds_le {a : Nat × CL} {j : Nat} (h : j ≤ x.length) : cds (x ++ [a]) j = cds x j := by
  unfold cds
  rw [List.take_append_of_le_length h]
theorem cds_all {a : Nat × CL} : cds (x ++ [a]) (x.length + 1) = cds x x.length ++ a.2.2.2.2 := by
  unfold cds
  rw [List.take_of_length_le (by rw [List.length_append, List.length_singleton]; exact Nat.le_refl _), List.take_of_length_le (Nat.le_refl _), List.map_append, List.flatten_append]
  simp
theorem rdK_16 {law : Bool} {q : Nat} {c : CL} (h : rdK t n law 16 p = .inr (q, c)) : False := by
  unfold rdK at h
  by_cases c1 : isWd (cu t n p) = false ∧ isLw (cu t n p) = false
  · rw [if_pos c1] at h
    cases h
  · rw [if_neg c1] at h
    by_cases c2 : law = false ∧ isLw (cu t n p) = true
    · rw [if_pos c2] at h
      cases h
    · rw [if_neg c2, if_pos rfl] at h
      cases h
theorem m_textL {law : Bool} (k : Nat) : ∀ (x : TXT) (p : Nat) (S : AH), x.length + k = 17 → RD t n S p (cds x x.length) → RTc S x → S.2 72 25 = (if law then 1 else 0) → match rdTL t n law k p x with
    | .inl e => ∃ T, LQ (WK L xs) (ev (WK L xs) (d + 12)) 204 45 [some (vr 72), none, none, some (vi 1)] [] S = some (e, T) ∧ Kf S T ∧ e < 0
    | .inr y => ∃ T, LQ (WK L xs) (ev (WK L xs) (d + 12)) 204 45 [some (vr 72), none, none, some (vi 1)] [] S = some (0, T) ∧ Kf S T ∧ RTf T y := by
  induction k with
  | zero =>
    intro x p S hl _ hc _
    have := hc.2.1
    omega
  | succ k ih =>
    intro x p S hl H hc h25
    have h200 := H.1.2.2
    have hK := m_clause (L := L) (xs := xs) (d := d) H hc.2.1 hc.1 h25
    have go : LQ (WK L xs) (ev (WK L xs) (d + 12)) 204 45 [some (vr 72), none, none, some (vi 1)] [] S = bindR (ev (WK L xs) (d + 12) 206 [vr 72] S) (fun r3 S4 => (bindR (ev (WK L xs) (d + 12) 205 [vr 72] S4) (fun r5 S6 => (if r5 = 0 then (LQ (WK L xs) (ev (WK L xs) (d + 12)) 204 83 [some (vr 72), none, none, none] [vi (0 : Int)] S6) else (if (S6.2 72 18) < (S6.2 72 19) then (LQ (WK L xs) (ev (WK L xs) (d + 12)) 204 83 [some (vr 72), none, none, none] [vi (1 : Int)] S6) else (LQ (WK L xs) (ev (WK L xs) (d + 12)) 204 83 [some (vr 72), none, none, none] [vi (0 : Int)] S6)))))) := by
      rw [q_204_45, if_neg (by decide), m_good H.2.1.2.1, bR, if_neg (by decide)]
    unfold rdTL
    revert hK
    cases hr : rdK t n law x.length p with
    | inl e =>
      rintro ⟨T, t1, t2, t3, t4⟩
      refine ⟨wr T 72 18 (w32 (T.2 72 18 + 1)), ?_, t2.tr (Kf.w72 (by first | decide | omega)), t4⟩
      rw [go, t1, bR, m_bad (by first | decide | omega), bR, if_pos rfl, q_204_83, if_pos rfl, q_204_45, if_pos rfl, wr_f, if_neg (by decide), t3]
    | inr y =>
      obtain ⟨q, c⟩ := y
      rintro ⟨T, t1, t2, t3, t4, t5, t6, t7, t8, t9, t10⟩
      have hx : x.length ≠ 16 := fun e => by rw [e] at hr; exact rdK_16 hr
      have hx16 := hc.2.1
      have T19 : T.2 72 19 = n := t3.1.2.1
      have e1 : cds (x ++ [(p, c)]) (x ++ [(p, c)]).length = cds x x.length ++ c.2.2.2 := by
        rw [List.length_append, List.length_singleton, cds_all]
      have HT : RD t n T q (cds (x ++ [(p, c)]) (x ++ [(p, c)]).length) := by rw [e1]; exact t3
      have CT : RTc T (x ++ [(p, c)]) := by
        refine ⟨by rw [t4, List.length_append, List.length_singleton]; omega, by rw [List.length_append, List.length_singleton]; omega, fun j y hy => ?_⟩
        have hj := (List.getElem?_eq_some_iff.mp hy).1
        rw [List.length_append, List.length_singleton] at hj
        by_cases ej : j < x.length
        · rw [List.getElem?_append_left ej] at hy
          obtain ⟨a1, a2, a3, a4, a5⟩ := hc.2.2 j y hy
          rw [t5 86 j (by decide) (by decide) ej, t5 87 j (by decide) (by decide) ej, t5 88 j (by decide) (by decide) ej, t5 89 j (by decide) (by decide) ej, t5 90 j (by decide) (by decide) ej, cds_le (by first | decide | omega), cds_le (by first | decide | omega)]
          exact ⟨a1, a2, a3, a4, a5⟩
        · have ej2 : j = x.length := by omega
          subst ej2
          rw [List.getElem?_append_right (Nat.le_refl _), Nat.sub_self] at hy
          simp only [List.getElem?_cons_zero, Option.some.injEq] at hy
          subst hy
          rw [cds_le (Nat.le_refl _), cds_all]
          exact ⟨t6, t7, t8, t9, t10⟩
      by_cases c1 : q < n
      · show match (if q < n then (if cu t n q = 59 then rdTL t n law k (q + 1) (x ++ [(p, c)]) else .inl (flt 1 q)) else .inr (x ++ [(p, c)])) with
          | .inl e => ∃ T, LQ (WK L xs) (ev (WK L xs) (d + 12)) 204 45 [some (vr 72), none, none, some (vi 1)] [] S = some (e, T) ∧ Kf S T ∧ e < 0
          | .inr y => ∃ T, LQ (WK L xs) (ev (WK L xs) (d + 12)) 204 45 [some (vr 72), none, none, some (vi 1)] [] S = some (0, T) ∧ Kf S T ∧ RTf T y
        rw [if_pos c1]
        by_cases c2 : cu t n q = 59
        · rw [if_pos c2]
          have go2 : LQ (WK L xs) (ev (WK L xs) (d + 12)) 204 45 [some (vr 72), none, none, some (vi 1)] [] S = LQ (WK L xs) (ev (WK L xs) (d + 12)) 204 45 [some (vr 72), none, none, some (vi 1)] [] (wr T 72 18 ((q + 1 : Nat) : Int)) := by
            rw [go, t1, bR, m_good t3.2.1.2.1, bR, if_neg (by decide), t3.2.1.1, T19, if_pos (by first | decide | omega), q_204_83, if_neg (by decide), m_here t3.1 t3.2.1.1 (by first | decide | omega), bR, if_pos c2, t3.2.1.1, w32e (x := (q : Int) + 1) (by first | decide | omega) (by first | decide | omega)]
            rfl
          have k72 : Kf T (wr T 72 18 ((q + 1 : Nat) : Int)) := Kf.w72 (by first | decide | omega)
          have hI := ih (x ++ [(p, c)]) (q + 1) (wr T 72 18 ((q + 1 : Nat) : Int)) (by rw [List.length_append, List.length_singleton]; omega) (HT.kf k72 (by rw [wr_f, if_pos rfl]) (by rw [wr_f, if_neg (by decide), t3.2.1.2.1]) (by rw [wr_f, if_neg (by decide)]) (by rw [wr_c (by decide)]) (by rw [wr_c (by decide)]) (by first | decide | omega)) ⟨by rw [wr_f, if_neg (by decide), CT.1], CT.2.1, fun j y hy => by rw [wr_c (by decide), wr_c (by decide), wr_c (by decide), wr_c (by decide), wr_c (by decide)]; exact CT.2.2 j y hy⟩ (by rw [wr_f, if_neg (by decide), t2.2.2 25 (by decide) (by decide) (by decide) (by decide) (by decide) (by decide) (by decide) (by decide), h25])
          rw [go2]
          revert hI
          cases rdTL t n law k (q + 1) (x ++ [(p, c)]) with
          | inl e =>
            rintro ⟨U, u1, u2, u3⟩
            exact ⟨U, u1, (t2.tr k72).tr u2, u3⟩
          | inr y =>
            rintro ⟨U, u1, u2, u3⟩
            exact ⟨U, u1, (t2.tr k72).tr u2, u3⟩
        · rw [if_neg c2]
          have hn := flt_neg (f := 1) (by decide) q
          refine ⟨wr (wr T 72 20 (flt 1 q)) 72 18 (w32 ((wr T 72 20 (flt 1 q)).2 72 18 + 1)), ?_, (t2.tr (Kf.w72 (by first | decide | omega))).tr (Kf.w72 (by first | decide | omega)), hn⟩
          have b20 : (wr (wr T 72 20 (flt 1 q)) 72 18 (w32 ((wr T 72 20 (flt 1 q)).2 72 18 + 1))).2 72 20 = flt 1 q := by rw [wr_f, if_neg (by decide), wr_f, if_pos rfl]
          rw [go, t1, bR, m_good t3.2.1.2.1, bR, if_neg (by decide), t3.2.1.1, T19, if_pos (by first | decide | omega), q_204_83, if_neg (by decide), m_here t3.1 t3.2.1.1 (by first | decide | omega), bR, if_neg c2, t3.2.1.1, m_fails t3.2.1.2.1 (by decide) (by first | decide | omega), bR, q_204_45, if_neg (by decide), m_bad (by first | decide | omega), bR, if_pos rfl, b20]
      · show match (if q < n then (if cu t n q = 59 then rdTL t n law k (q + 1) (x ++ [(p, c)]) else .inl (flt 1 q)) else .inr (x ++ [(p, c)])) with
          | .inl e => ∃ T, LQ (WK L xs) (ev (WK L xs) (d + 12)) 204 45 [some (vr 72), none, none, some (vi 1)] [] S = some (e, T) ∧ Kf S T ∧ e < 0
          | .inr y => ∃ T, LQ (WK L xs) (ev (WK L xs) (d + 12)) 204 45 [some (vr 72), none, none, some (vi 1)] [] S = some (0, T) ∧ Kf S T ∧ RTf T y
        rw [if_neg c1]
        refine ⟨wr T 72 18 (w32 (T.2 72 18 + 1)), ?_, t2.tr (Kf.w72 (by first | decide | omega)), ⟨by rw [wr_f, if_neg (by decide), CT.1], CT.2.1, fun j y hy => by rw [wr_c (by decide), wr_c (by decide), wr_c (by decide), wr_c (by decide), wr_c (by decide)]; exact CT.2.2 j y hy⟩, ?_, ?_, fun i y hy => ?_⟩
        · rw [go, t1, bR, m_good t3.2.1.2.1, bR, if_neg (by decide), T19, t3.2.1.1, if_neg (by first | decide | omega), q_204_83, if_pos rfl, q_204_45, if_pos rfl, wr_f, if_neg (by decide), t3.2.1.2.1, t3.2.1.1]
        · rw [wr_f, if_neg (by decide), HT.2.1.2.2]
        · have := HT.2.2.1
          omega
        · rw [wr_c (by decide), wr_c (by decide)]
          exact HT.2.2.2 i y hy
theorem m_readText (hn : n ≤ 200) (ht : ∀ k, k < n → iand (S.2 73 k) 255 = t k) {law : Bool} : (0 < n → match rdT t n law with
    | .inl e => ∃ T, ev (WK L xs) (d + 13) 204 [vr 72, vi (n : Int), vi (if law then 1 else 0)] S = some (e, T) ∧ Tf S T ∧ T.2 72 1 = 0 ∧ e < 0
    | .inr y => ∃ T, ev (WK L xs) (d + 13) 204 [vr 72, vi (n : Int), vi (if law then 1 else 0)] S = some (0, T) ∧ Tf S T ∧ T.2 72 1 = 0 ∧ RTf T y) ∧ (n = 0 → ∃ T, ev (WK L xs) (d + 13) 204 [vr 72, vi (n : Int), vi (if law then 1 else 0)] S = some (0, T) ∧ Tf S T ∧ T.2 72 1 = 0 ∧ RTf T []) := by
  have hb : ((if law = true then (1 : Int) else 0) = 0 ∨ (if law = true then (1 : Int) else 0) = 1) := by
    cases law
    · exact Or.inl rfl
    · exact Or.inr rfl
  generalize hlw : (if law = true then (1 : Int) else 0) = lw at hb
  generalize hS0 : wr (wr (wr (wr (wr (wr (wr S 72 1 0) 72 18 0) 72 19 (n : Int)) 72 20 0) 72 21 0) 72 22 0) 72 25 lw = S0
  have c0 : ∀ a, a ≠ 72 → S0.2 a = S.2 a := fun a ha => by rw [← hS0]; repeat rw [wr_c ha]
  have k0 : ∀ k, k ≠ 1 → k ≠ 18 → k ≠ 19 → k ≠ 20 → k ≠ 21 → k ≠ 22 → k ≠ 25 → S0.2 72 k = S.2 72 k := fun k q1 q2 q3 q4 q5 q6 q7 => by
    rw [← hS0, wr_f, if_neg q7, wr_f, if_neg q6, wr_f, if_neg q5, wr_f, if_neg q4, wr_f, if_neg q3, wr_f, if_neg q2, wr_f, if_neg q1]
  have v1 : S0.2 72 1 = 0 := by rw [← hS0]; simp [wr_f]
  have v18 : S0.2 72 18 = 0 := by rw [← hS0]; simp [wr_f]
  have v19 : S0.2 72 19 = n := by rw [← hS0]; simp [wr_f]
  have v20 : S0.2 72 20 = 0 := by rw [← hS0]; simp [wr_f]
  have v21 : S0.2 72 21 = 0 := by rw [← hS0]; simp [wr_f]
  have v22 : S0.2 72 22 = 0 := by rw [← hS0]; simp [wr_f]
  have v25 : S0.2 72 25 = lw := by rw [← hS0]; simp [wr_f]
  have tf : ∀ {T : AH}, Kf S0 T → Tf S T ∧ T.2 72 1 = 0 := fun {T} h => by
    refine ⟨⟨?_, fun a q1 q2 => by rw [h.2.1 a q1 q2, c0 a q1], fun k q1 q2 q3 => ?_⟩, ?_⟩
    · rw [h.1, ← hS0]
      rfl
    · rw [h.2.2 k (by first | decide | omega) (by first | decide | omega) (by first | decide | omega) (by first | decide | omega) (by first | decide | omega) (by first | decide | omega) (by first | decide | omega) q3, k0 k q1 (by first | decide | omega) (by first | decide | omega) (by first | decide | omega) (by first | decide | omega) (by first | decide | omega) (by first | decide | omega)]
    · rw [h.2.2 1 (by decide) (by decide) (by decide) (by decide) (by decide) (by decide) (by decide) (by decide), v1]
  have kr : Kf S0 S0 := Zf.kf Zf.rf
  have C0 : RTc S0 [] := ⟨v21, by decide, fun j q hq => by simp at hq⟩
  refine ⟨fun h0 => ?_, fun h0 => ?_⟩
  · have go : ev (WK L xs) (d + 13) 204 [vr 72, vi (n : Int), vi lw] S = LQ (WK L xs) (ev (WK L xs) (d + 12)) 204 45 [some (vr 72), none, none, some (vi 1)] [] S0 := by
      rw [q_204, if_pos hb, if_pos (by first | decide | omega), hS0]
    have H0 : RD t n S0 0 (cds [] 0) := ⟨⟨by rw [c0 73 (by decide)]; exact ht, v19, hn⟩, ⟨v18, v20, v22⟩, ⟨by omega, by decide⟩, fun i q hq => by simp [cds] at hq⟩
    have hT := m_textL (L := L) (xs := xs) (d := d) (law := law) 17 [] 0 S0 rfl H0 C0 (by rw [v25, hlw])
    rw [go]
    unfold rdT
    revert hT
    cases rdTL t n law 17 0 [] with
    | inl e =>
      rintro ⟨T, t1, t2, t3⟩
      exact ⟨T, t1, (tf t2).1, (tf t2).2, t3⟩
    | inr y =>
      rintro ⟨T, t1, t2, t3⟩
      exact ⟨T, t1, (tf t2).1, (tf t2).2, t3⟩
  · refine ⟨S0, ?_, (tf kr).1, v1, C0, v22, by decide, fun i q hq => by simp [cds] at hq⟩
    rw [q_204, if_pos hb, if_neg (by first | decide | omega), hS0, q_204_45, if_pos rfl, v20]
end
