/-! the reference's reader: pieces and what joins them -/
noncomputable def CA (L : Nat) (xs : Nat → Int) (d : Nat) (S : AH) : Rs := LQ (WK L xs) (ev (WK L xs) (d + 9)) 211 47 [some (vr 72), some (vi 1)] [] S
noncomputable def CB (L : Nat) (xs : Nat → Int) (d : Nat) (S : AH) : Rs := LQ (WK L xs) (ev (WK L xs) (d + 9)) 211 47 [some (vr 72), some (vi 0)] [] S
/-- behind a condition -/
noncomputable def RD (t : TB) (n : Nat) (S : AH) (p : Nat) (cd : CD) : Prop := Zt t n S ∧ (S.2 72 18 = p ∧ S.2 72 20 = 0 ∧ S.2 72 22 = cd.length) ∧ (p ≤ n ∧ cd.length ≤ p) ∧ ∀ (i : Nat) (q : Int × Int), cd[i]? = some q → S.2 91 i = q.1 ∧ S.2 92 i = q.2
section
variable {L : Nat} {xs : Nat → Int} {d : Nat} {S S' T U W : AH} {t : TB} {n p : Nat} {cd : CD} {st pd : List Int}
theorem C_bad {x : Int} (h : S.2 72 20 ≠ 0) : LQ (WK L xs) (ev (WK L xs) (d + 9)) 211 47 [some (vr 72), some (vi x)] [] S = some (0, S) := by
  rw [q_211_47, m_bad h, bR, if_pos rfl]
theorem CB_on (h : S.2 72 20 = 0) (h26 : S.2 72 26 = 0) : CB L xs d S = bindR (ev (WK L xs) (d + 9) 228 [vr 72] S) (fun r T => LQ (WK L xs) (ev (WK L xs) (d + 9)) 211 47 [some (vr 72), some (vi r)] [] T) := by
  unfold CB
  rw [q_211_47, m_good h, bR, if_neg (by decide), if_pos h26, if_pos rfl, m_good h, bR, if_neg (by decide)]
theorem CA_on (h : S.2 72 20 = 0) (h26 : S.2 72 26 = 0) : CA L xs d S = bindR (ev (WK L xs) (d + 9) 213 [vr 72] S) (fun _ T => bindR (ev (WK L xs) (d + 9) 205 [vr 72] T) (fun r9 S10 => if r9 = 0 then LQ (WK L xs) (ev (WK L xs) (d + 9)) 211 47 [some (vr 72), some (vi 1)] [] S10 else bindR (ev (WK L xs) (d + 9) 228 [vr 72] S10) (fun r T => LQ (WK L xs) (ev (WK L xs) (d + 9)) 211 47 [some (vr 72), some (vi r)] [] T))) := by
  unfold CA
  rw [q_211_47, m_good h, bR, if_neg (by decide), if_pos h26, if_neg (by decide)]
theorem CA_good (H : RZ t n S p cd st) {q : Nat} {cd2 : CD} {st2 : List Int} {r : Int} (h : ev (WK L xs) (d + 9) 213 [vr 72] S = some (r, T)) (HT : RZ t n T q cd2 st2) : CA L xs d S = CB L xs d T := by
  rw [CA_on H.2.1.2.1 H.2.1.2.2.2.2.2, h, bR, m_good HT.2.1.2.1, bR, if_neg (by decide), CB_on HT.2.1.2.1 HT.2.1.2.2.2.2.2]
theorem CA_badd (H : RZ t n S p cd st) {r e : Int} (h : ev (WK L xs) (d + 9) 213 [vr 72] S = some (r, T)) (hT : Bd S T e) : ∃ T, CA L xs d S = some (0, T) ∧ Bd S T e := by
  have hb : T.2 72 20 ≠ 0 := by
    have := hT.2
    omega
  refine ⟨T, ?_, hT⟩
  rw [CA_on H.2.1.2.1 H.2.1.2.2.2.2.2, h, bR, m_bad hb, bR, if_pos rfl, C_bad hb]
theorem pie_32 (H : RZ t n S p cd st) (h1 : cu t n p ≠ 33) (h2 : cu t n p ≠ 40) : ev (WK L xs) (d + 9) 213 [vr 72] S = LQ (WK L xs) (ev (WK L xs) (d + 8)) 213 32 [some (vr 72)] [] S := by
  have h200 := H.1.2.2
  have b1 := H.2.2.1.1
  rw [q_213, m_good H.2.1.2.1, bR, if_neg (by decide), m_here H.1 H.2.1.1 (by first | decide | omega), bR, if_neg h1, m_here H.1 H.2.1.1 (by first | decide | omega), bR, if_neg h2]
theorem CA_open (H : RZ t n S p cd st) (hc : cu t n p = 33 ∨ cu t n p = 40) : (opn st = 8 → ∃ T, CA L xs d S = some (0, T) ∧ Bd S T (flt 5 p)) ∧ (opn st < 8 → ∃ T, CA L xs d S = CA L xs d T ∧ RZ t n T (p + 1) cd (cu t n p :: st) ∧ Zf S T) := by
  have h200 := H.1.2.2
  have b1 := H.2.2.1.1
  have key : ev (WK L xs) (d + 9) 213 [vr 72] S = bindR (ev (WK L xs) (d + 8) 212 [vr 72] S) (fun _ S6 => LQ (WK L xs) (ev (WK L xs) (d + 8)) 213 0 [some (vr 72)] [] S6) := by
    rw [q_213, m_good H.2.1.2.1, bR, if_neg (by decide), m_here H.1 H.2.1.1 (by first | decide | omega), bR]
    by_cases c : cu t n p = 33
    · rw [if_pos c]
    · rw [if_neg c, m_here H.1 H.2.1.1 (by first | decide | omega), bR, if_pos (hc.resolve_left c)]
  obtain ⟨o1, o2⟩ := m_opens (L := L) (xs := xs) (d := d + 6) H (by first | decide | omega)
  refine ⟨fun q => ?_, fun q => ?_⟩
  · obtain ⟨T, t1, t2⟩ := o1 q
    have hb : T.2 72 20 ≠ 0 := by
      have := t2.2
      omega
    refine CA_badd H (r := 0) (T := T) ?_ t2
    rw [key, t1, bR, q_213_0, m_bad hb, bR, if_pos rfl, q_213_32, m_bad hb, bR, if_pos rfl]
  · obtain ⟨T, t1, t2, t3, -⟩ := o2 q
    refine ⟨T, ?_, t2, t3⟩
    rw [CA_on H.2.1.2.1 H.2.1.2.2.2.2.2, CA_on t2.2.1.2.1 t2.2.1.2.2.2.2.2, key, t1, bR, q_213, q_213_0]
/-- a sign that joins -/
theorem CB_op (H : RZ t n S p cd (pd ++ st)) (hc : cu t n p = 38 ∨ cu t n p = 124) (hpd : ∀ x, x ∈ pd → x = 38 ∨ (cu t n p = 124 ∧ x = 124)) (h1 : st.headD 0 ≠ 38) (h2 : cu t n p = 124 → st.headD 0 ≠ 124) : ∃ T, CB L xs d S = CA L xs d T ∧ RZ t n T (p + 1) (cd ++ pdc pd) (cu t n p :: st) ∧ Zf S T := by
  have h200 := H.1.2.2
  have b1 := H.2.2.1.1
  have hp := cu_pos (t := t) (n := n) (p := p) (by first | decide | omega)
  have g : ev (WK L xs) (d + 9) 228 [vr 72] S = LQ (WK L xs) (ev (WK L xs) (d + 8)) 228 29 [some (vr 72), some (vi (cu t n p))] [vi (bi (cu t n p = 124)), vr 72] S := by
    rw [q_228, m_here H.1 H.2.1.1 (by first | decide | omega), bR]
    by_cases c : cu t n p = 124
    · rw [if_neg (by first | decide | omega), if_pos c, if_pos c, bi_T c]
    · rw [if_pos (hc.resolve_right c), if_neg c, bi_F c]
  have hpl : bi (cu t n p = 124) = 0 ∨ bi (cu t n p = 124) = 1 := by rw [bi_01]; trivial
  obtain ⟨T, t1, t2, t3⟩ := m_joins (L := L) (xs := xs) (d := d + 4) hpl h1 (fun q => h2 (bi_1.mp q)) H (fun x hx => by
    rcases hpd x hx with q | q
    · exact Or.inl q
    · exact Or.inr ⟨bi_T q.1, q.2⟩)
  have b2 := t2.2.2.1
  obtain ⟨P1, P2⟩ := t2.psh hp (c := cu t n p) (by first | decide | omega)
  refine ⟨_, ?_, P1, t3.tr P2⟩
  rw [CB_on H.2.1.2.1 H.2.1.2.2.2.2.2, g, q_228_29, show ev (WK L xs) (d + 8) 229 [vr 72, vi (bi (cu t n p = 124))] S = some (0, T) from t1, bR, t2.2.1.2.2.2.2.1, if_pos (by first | decide | omega), t2.2.1.1, Int.toNat_natCast, w32e (x := (st.length : Int) + 1) (by first | decide | omega) (by first | decide | omega), w32e (x := (p : Int) + 1) (by first | decide | omega) (by first | decide | omega), bR]
  rfl
theorem CB_fail (H : RZ t n S p cd st) (hc : cu t n p ≠ 38 ∧ cu t n p ≠ 124 ∧ cu t n p ≠ 41) : ∃ T, CB L xs d S = some (0, T) ∧ Bd S T (flt 1 p) := by
  have h200 := H.1.2.2
  have b1 := H.2.2.1.1
  have hn := flt_neg (f := 1) (by decide) p
  refine ⟨wr S 72 20 (flt 1 p), ?_, Bd.fl (by decide) p⟩
  rw [CB_on H.2.1.2.1 H.2.1.2.2.2.2.2, q_228, m_here H.1 H.2.1.1 (by first | decide | omega), bR, if_neg hc.1, if_neg hc.2.1, if_neg hc.2.2, H.2.1.1, m_fails H.2.1.2.1 (by decide) (by first | decide | omega), bR, bR, C_bad (by rw [wr_f, if_pos rfl]; omega)]
/-- a ) -/
theorem CB_pop (H : RZ t n S p cd (pd ++ 40 :: st)) (hc : cu t n p = 41) (hpd : ∀ x, x ∈ pd → x = 38 ∨ x = 124) : ∃ T, ev (WK L xs) (d + 8) 229 [vr 72, vi 1] S = some (0, T) ∧ RZ t n T p (cd ++ pdc pd) (40 :: st) ∧ Zf S T ∧ (p < n ∧ st.length ≤ 199 ∧ opn st ≤ 7) ∧ w32 (T.2 72 24 - 1) = st.length ∧ w32 (T.2 72 23 - 1) = opn st ∧ w32 (T.2 72 18 + 1) = (p : Int) + 1 := by
  have h200 := H.1.2.2
  have hp := cu_pos (t := t) (n := n) (p := p) (by first | decide | omega)
  obtain ⟨T, t1, t2, t3⟩ := m_joins (L := L) (xs := xs) (d := d + 4) (pl := 1) (st := 40 :: st) (Or.inr rfl) (show (40 : Int) ≠ 38 by decide) (fun _ => show (40 : Int) ≠ 124 by decide) H (fun x hx => (hpd x hx).imp id (fun q => ⟨rfl, q⟩))
  refine ⟨T, t1, t2, t3, ?_⟩
  obtain ⟨z, ⟨h18, h20, h22, h23, h24, h26⟩, ⟨c1, c2, c3⟩, -, -⟩ := t2
  rw [List.length_cons] at h24 c2
  rw [opn_br (Or.inr (Or.inl rfl))] at h23 c3
  rw [h18, h23, h24, w32e (x := ((st.length + 1 : Nat) : Int) - 1) (by first | decide | omega) (by first | decide | omega), w32e (x := ((opn st + 1 : Nat) : Int) - 1) (by first | decide | omega) (by first | decide | omega), w32e (by first | decide | omega) (by first | decide | omega)]
  omega
theorem CB_close (H : RZ t n S p cd (pd ++ 40 :: st)) (hc : cu t n p = 41) (hpd : ∀ x, x ∈ pd → x = 38 ∨ x = 124) (hst : st ≠ []) : ∃ T, CB L xs d S = CB L xs d T ∧ RZ t n T (p + 1) (cd ++ pdc pd ++ enC st) (enS st) ∧ Zf S T := by
  have h200 := H.1.2.2
  have b1 := H.2.2.1.1
  obtain ⟨T, t1, t2, t3, ⟨hp, l1, l2⟩, e24, e23, e18⟩ := CB_pop (L := L) (xs := xs) (d := d) H hc hpd
  have hl : st.length ≠ 0 := fun q => hst (List.length_eq_zero_iff.mp q)
  have hz : Zf T (wr (wr (wr (wr T 72 24 (st.length : Int)) 72 23 (opn st : Int)) 72 18 ((p : Int) + 1)) 72 26 0) := (((Zf.w72 (by first | decide | omega)).tr (Zf.w72 (by first | decide | omega))).tr (Zf.w72 (by first | decide | omega))).tr (Zf.w72 (by first | decide | omega))
  have HX : RZ t n (wr (wr (wr (wr T 72 24 (st.length : Int)) 72 23 (opn st : Int)) 72 18 ((p : Int) + 1)) 72 26 0) (p + 1) (cd ++ pdc pd) st := by
    obtain ⟨z, ⟨h18, h20, h22, h23, h24, h26⟩, ⟨c1, c2, c3⟩, hcd, hs⟩ := t2
    rw [List.length_cons] at c2 hs
    refine ⟨z.fr hz, ⟨?_, ?_, ?_, ?_, ?_, ?_⟩, ⟨by omega, by omega, by omega⟩, ?_, fun i x hx => ?_⟩
    · rw [wr_f, if_neg (by decide), wr_f, if_pos rfl]
      omega
    · rw [wr_f, if_neg (by decide), wr_f, if_neg (by decide), wr_f, if_neg (by decide), wr_f, if_neg (by decide), h20]
    · rw [wr_f, if_neg (by decide), wr_f, if_neg (by decide), wr_f, if_neg (by decide), wr_f, if_neg (by decide), h22]
    · rw [wr_f, if_neg (by decide), wr_f, if_neg (by decide), wr_f, if_pos rfl]
    · rw [wr_f, if_neg (by decide), wr_f, if_neg (by decide), wr_f, if_neg (by decide), wr_f, if_pos rfl]
    · rw [wr_f, if_pos rfl]
    · rw [wr_c (by decide), wr_c (by decide), wr_c (by decide), wr_c (by decide), wr_c (by decide), wr_c (by decide), wr_c (by decide), wr_c (by decide)]
      exact hcd
    · have hl := (List.getElem?_eq_some_iff.mp hx).1
      have := hs (i + 1) x hx
      rw [wr_c (by decide), wr_c (by decide), wr_c (by decide), wr_c (by decide), show st.length - 1 - i = st.length + 1 - 1 - (i + 1) by omega]
      exact this
  obtain ⟨U, u1, u2, u3⟩ := m_ends (L := L) (xs := xs) (d := d + 4) HX
  refine ⟨U, ?_, u2, (t3.tr hz).tr u3⟩
  rw [CB_on H.2.1.2.1 H.2.1.2.2.2.2.2, q_228, m_here H.1 H.2.1.1 (by first | decide | omega), bR, if_neg (by first | decide | omega), if_neg (by first | decide | omega), if_pos hc, t1, bR, e24, e23, e18, if_neg (by first | decide | omega), if_pos rfl, show ev (WK L xs) (d + 8) 227 [vr 72] (wr (wr (wr (wr T 72 24 (st.length : Int)) 72 23 (opn st : Int)) 72 18 ((p : Int) + 1)) 72 26 0) = some (0, U) from u1, bR, bR]
  rfl
theorem CB_done (H : RZ t n S p cd (pd ++ [40])) (hc : cu t n p = 41) (hpd : ∀ x, x ∈ pd → x = 38 ∨ x = 124) : ∃ T, CB L xs d S = some (0, T) ∧ RD t n T (p + 1) (cd ++ pdc pd) ∧ Zf S T := by
  have h200 := H.1.2.2
  have b1 := H.2.2.1.1
  obtain ⟨T, t1, t2, t3, ⟨hp, l1, l2⟩, e24, e23, e18⟩ := CB_pop (L := L) (xs := xs) (d := d) H hc hpd
  have hz : Zf T (wr (wr (wr (wr T 72 24 ((([] : List Int).length : Nat) : Int)) 72 23 ((opn [] : Nat) : Int)) 72 18 ((p : Int) + 1)) 72 26 1) := (((Zf.w72 (by first | decide | omega)).tr (Zf.w72 (by first | decide | omega))).tr (Zf.w72 (by first | decide | omega))).tr (Zf.w72 (by first | decide | omega))
  refine ⟨_, ?_, ?_, t3.tr hz⟩
  · rw [CB_on H.2.1.2.1 H.2.1.2.2.2.2.2, q_228, m_here H.1 H.2.1.1 (by first | decide | omega), bR, if_neg (by first | decide | omega), if_neg (by first | decide | omega), if_pos hc, t1, bR, e24, e23, e18, if_pos (show (([] : List Int).length : Int) = 0 from rfl), if_neg (show ¬ (1 : Int) = 0 by decide), bR, q_211_47, m_good (by rw [wr_f, if_neg (by decide), wr_f, if_neg (by decide), wr_f, if_neg (by decide), wr_f, if_neg (by decide), t2.2.1.2.1]), bR, if_neg (by decide), if_neg (by rw [wr_f, if_pos rfl]; decide)]
  · obtain ⟨z, ⟨h18, h20, h22, h23, h24, h26⟩, ⟨c1, c2, c3⟩, hcd, hs⟩ := t2
    rw [List.length_cons] at c2
    refine ⟨z.fr hz, ⟨?_, ?_, ?_⟩, ⟨by omega, by omega⟩, ?_⟩
    · rw [wr_f, if_neg (by decide), wr_f, if_pos rfl]
      omega
    · rw [wr_f, if_neg (by decide), wr_f, if_neg (by decide), wr_f, if_neg (by decide), wr_f, if_neg (by decide), h20]
    · rw [wr_f, if_neg (by decide), wr_f, if_neg (by decide), wr_f, if_neg (by decide), wr_f, if_neg (by decide), h22]
    · rw [wr_c (by decide), wr_c (by decide), wr_c (by decide), wr_c (by decide), wr_c (by decide), wr_c (by decide), wr_c (by decide), wr_c (by decide)]
      exact hcd
end
