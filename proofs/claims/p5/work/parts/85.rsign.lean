/-! the reference's reader: what goes on behind a factor -/
section
variable {L : Nat} {xs : Nat → Int} {d : Nat} {S S' T U W : AH} {t : TB} {n p : Nat} {cd : CD} {st pd : List Int}
theorem tm_0 : isTm 0 = false := by decide
theorem nf {b : Bool} (h : ¬ b = true) : b = false := by simpa using h
theorem X1_A (h : T.2 72 35 = 0) : LQ (WK L xs) (ev (WK L xs) (d + 6)) 217 7 [some (vr 72), some (vi 1)] [] T = XA L xs d T := by
  unfold XA
  rw [wr_id h]
theorem RZ.psh (H : RZ t n S p cd st) (hp : p < n) {c : Int} (hc : ¬ (c = 33 ∨ c = 40 ∨ c = 91)) : RZ t n (wr (wr (wr S 93 st.length c) 72 24 ((st.length : Int) + 1)) 72 18 ((p : Int) + 1)) (p + 1) cd (c :: st) ∧ Zf S (wr (wr (wr S 93 st.length c) 72 24 ((st.length : Int) + 1)) 72 18 ((p : Int) + 1)) := by
  have hz : Zf S (wr (wr (wr S 93 st.length c) 72 24 ((st.length : Int) + 1)) 72 18 ((p : Int) + 1)) := ((Zf.wA (by first | decide | omega)).tr (Zf.w72 (by first | decide | omega))).tr (Zf.w72 (by first | decide | omega))
  have H0 := H
  obtain ⟨z, ⟨h18, h20, h22, h23, h24, h26⟩, ⟨b1, b2, b3⟩, hcd, hs⟩ := H
  refine ⟨H0.push hz hp ?_ ?_ ?_ ?_ ?_ ?_ ?_ ?_ (fun j => ?_) (by rw [opn_op hc]; exact b3), hz⟩
  · rw [wr_f, if_pos rfl]
  · rw [wr_f, if_neg (by decide), wr_f, if_neg (by decide), wr_c (by decide), h20]
  · rw [wr_f, if_neg (by decide), wr_f, if_neg (by decide), wr_c (by decide)]
  · rw [wr_f, if_neg (by decide), wr_f, if_neg (by decide), wr_c (by decide), h23, opn_op hc]
  · rw [wr_f, if_neg (by decide), wr_f, if_pos rfl]
  · rw [wr_f, if_neg (by decide), wr_f, if_neg (by decide), wr_c (by decide), h26]
  · rw [wr_c (by decide), wr_c (by decide), wr_c (by decide)]
  · rw [wr_c (by decide), wr_c (by decide), wr_c (by decide)]
  · rw [wr_c (by decide), wr_c (by decide), wr_f]
/-- a sign of reckoning -/
theorem XB_op (H0 : RZ t n S p cd (pd ++ st)) (hc : isTm (cu t n p) = true ∨ isPm (cu t n p) = true) (hpd : ∀ x, x ∈ pd → isTm x = true ∨ (isPm (cu t n p) = true ∧ isPm x = true)) (h1 : isTm (st.headD 0) = false) (h2 : isPm (cu t n p) = true → isPm (st.headD 0) = false) : ∃ T, XB L xs d S = XA L xs d T ∧ RZ t n T (p + 1) (cd ++ pdc pd) (cu t n p :: st) ∧ Zf S T := by
  have zS : Zf S (wr S 72 35 0) := Zf.w72 (by first | decide | omega)
  have H := H0.w35 (b := 0)
  have e35 : (wr S 72 35 0).2 72 35 = 0 := by rw [wr_f, if_pos rfl]
  generalize hS0 : wr S 72 35 0 = S0 at H zS e35
  have h200 := H.1.2.2
  have b1 := H.2.2.1.1
  have hne : cu t n p ≠ 0 := fun q => by rw [q] at hc; exact absurd hc (by decide)
  have hp := cu_pos hne
  have hbr : ¬ (cu t n p = 33 ∨ cu t n p = 40 ∨ cu t n p = 91) := by
    rcases hc with q | q
    · exact tm_br q
    · exact pm_br q
  have g : ev (WK L xs) (d + 6) 220 [vr 72] S0 = LQ (WK L xs) (ev (WK L xs) (d + 5)) 220 19 [some (vr 72), some (vi (cu t n p))] [] S0 := by
    rw [q_220, m_here H.1 H.2.1.1 (by first | decide | omega), bR, m_times, bR]
    simp only [bi_0]
    by_cases q : isTm (cu t n p) = true
    · rw [if_neg (fun z => z q)]
    · rw [if_pos q, m_plus, bR]
      simp only [bi_0]
      rw [if_neg (fun z => z (hc.resolve_left q))]
  have hpl : bi (isPm (cu t n p) = true) = 0 ∨ bi (isPm (cu t n p) = true) = 1 := by rw [bi_01]; trivial
  obtain ⟨T, t1, t2, t3, t4⟩ := m_sums (L := L) (xs := xs) (d := d + 1) hpl h1 (fun q => h2 (bi_1.mp q)) H (fun x hx => by
    rcases hpd x hx with q | q
    · exact Or.inl q
    · exact Or.inr ⟨bi_T q.1, q.2⟩)
  have b2 := t2.2.2.1
  obtain ⟨P1, P2⟩ := t2.psh hp hbr
  refine ⟨_, ?_, P1, (zS.tr t3).tr P2⟩
  rw [XB_on H0.2.1.2.1, hS0, g, q_220_19, m_plus, bR, show ev (WK L xs) (d + 5) 223 [vr 72, vi (bi (isPm (cu t n p) = true))] S0 = some (0, T) from t1, bR, t2.2.1.2.2.2.2.1, if_pos (by first | decide | omega), t2.2.1.1, Int.toNat_natCast, w32e (x := (st.length : Int) + 1) (by first | decide | omega) (by first | decide | omega), w32e (x := (p : Int) + 1) (by first | decide | omega) (by first | decide | omega), bR, if_neg (by decide), X1_A]
  rw [wr_f, if_neg (by decide), wr_f, if_neg (by decide), wr_c (by decide), t4, e35]
/-- all that waits is flushed -/
theorem XB_sums (H0 : RZ t n S p cd (pd ++ st)) (hpd : ∀ x, x ∈ pd → isTm x = true ∨ isPm x = true) (h1 : isTm (st.headD 0) = false) (h2 : isPm (st.headD 0) = false) : ∃ T, ev (WK L xs) (d + 5) 223 [vr 72, vi 1] (wr S 72 35 0) = some (0, T) ∧ RZ t n T p (cd ++ pdc pd) st ∧ Zf S T ∧ T.2 72 35 = 0 := by
  have zS : Zf S (wr S 72 35 0) := Zf.w72 (by first | decide | omega)
  obtain ⟨T, t1, t2, t3, t4⟩ := m_sums (L := L) (xs := xs) (d := d + 1) (pl := 1) (Or.inr rfl) h1 (fun _ => h2) (H0.w35 (b := 0)) (fun x hx => by
    rcases hpd x hx with q | q
    · exact Or.inl q
    · exact Or.inr ⟨rfl, q⟩)
  exact ⟨T, t1, t2, zS.tr t3, by rw [t4, wr_f, if_pos rfl]⟩
theorem XB_close (H0 : RZ t n S p cd (pd ++ 91 :: st)) (hc : cu t n p = 93) (hpd : ∀ x, x ∈ pd → isTm x = true ∨ isPm x = true) : ∃ T, XB L xs d S = XB L xs d T ∧ RZ t n T (p + 1) (cd ++ pdc pd) st ∧ Zf S T := by
  have H := H0.w35 (b := 0)
  have h200 := H.1.2.2
  have b1 := H.2.2.1.1
  have hp := cu_pos (t := t) (n := n) (p := p) (by first | decide | omega)
  obtain ⟨T, t1, t2, t3, t4⟩ := XB_sums (L := L) (xs := xs) (d := d) H0 hpd (show isTm 91 = false by decide) (show isPm 91 = false by decide)
  have ht := m_top (L := L) (xs := xs) (d := d + 4) t2
  obtain ⟨z, ⟨h18, h20, h22, h23, h24, h26⟩, ⟨c1, c2, c3⟩, hcd, hs⟩ := t2
  rw [List.length_cons] at h24 c2 hs
  rw [opn_br (Or.inr (Or.inr rfl))] at h23 c3
  have e20 : (wr (wr (wr T 72 24 (st.length : Int)) 72 23 (opn st : Int)) 72 18 ((p : Int) + 1)).2 72 20 = 0 := by rw [wr_f, if_neg (by decide), wr_f, if_neg (by decide), wr_f, if_neg (by decide), h20]
  have hz : Zf T (wr (wr (wr T 72 24 (st.length : Int)) 72 23 (opn st : Int)) 72 18 ((p : Int) + 1)) := ((Zf.w72 (by first | decide | omega)).tr (Zf.w72 (by first | decide | omega))).tr (Zf.w72 (by first | decide | omega))
  refine ⟨wr (wr (wr T 72 24 (st.length : Int)) 72 23 (opn st : Int)) 72 18 ((p : Int) + 1), ?_, ?_, t3.tr hz⟩
  · rw [XB_on H0.2.1.2.1, q_220, m_here H.1 H.2.1.1 (by first | decide | omega), bR, hc, m_times, bR]
    simp only [bi_0]
    rw [if_pos (by decide), m_plus, bR]
    simp only [bi_0]
    rw [if_pos (by decide), if_pos trivial, t1, bR, show ev (WK L xs) (d + 5) 224 [vr 72] T = some (91, T) from ht, bR, if_pos rfl, h24, h23, h18, w32e (x := ((st.length + 1 : Nat) : Int) - 1) (by first | decide | omega) (by first | decide | omega), w32e (x := ((opn st + 1 : Nat) : Int) - 1) (by first | decide | omega) (by first | decide | omega), w32e (x := (p : Int) + 1) (by first | decide | omega) (by first | decide | omega), show ((st.length + 1 : Nat) : Int) - 1 = (st.length : Int) by omega, show ((opn st + 1 : Nat) : Int) - 1 = (opn st : Int) by omega, m_good e20, bR, if_neg (by decide), q_225, bR, if_neg (by decide), bR, if_neg (by decide), q_217_7, if_neg (by decide), m_good (by rw [wr_f, if_neg (by decide), e20]), bR, if_neg (by decide), if_neg (by rw [wr_f, if_pos rfl]; decide)]
    exact XB_35
  · refine ⟨z.fr hz, ⟨?_, e20, ?_, ?_, ?_, ?_⟩, ⟨by omega, by omega, by omega⟩, ?_, fun i x hx => ?_⟩
    · rw [wr_f, if_pos rfl]
      omega
    · rw [wr_f, if_neg (by decide), wr_f, if_neg (by decide), wr_f, if_neg (by decide), h22]
    · rw [wr_f, if_neg (by decide), wr_f, if_pos rfl]
    · rw [wr_f, if_neg (by decide), wr_f, if_neg (by decide), wr_f, if_pos rfl]
    · rw [wr_f, if_neg (by decide), wr_f, if_neg (by decide), wr_f, if_neg (by decide), h26]
    · rw [wr_c (by decide), wr_c (by decide), wr_c (by decide), wr_c (by decide), wr_c (by decide), wr_c (by decide)]
      exact hcd
    · have hl := (List.getElem?_eq_some_iff.mp hx).1
      have := hs (i + 1) x hx
      rw [wr_c (by decide), wr_c (by decide), wr_c (by decide), show st.length - 1 - i = st.length + 1 - 1 - (i + 1) by omega]
      exact this
theorem XB_closeB (H0 : RZ t n S p cd (pd ++ st)) (hc : cu t n p = 93) (hpd : ∀ x, x ∈ pd → isTm x = true ∨ isPm x = true) (h1 : isTm (st.headD 0) = false) (h2 : isPm (st.headD 0) = false) (h3 : st.headD 0 ≠ 91) : ∃ T, XB L xs d S = some (0, T) ∧ Bd S T (flt 1 p) := by
  have H := H0.w35 (b := 0)
  have h200 := H.1.2.2
  have b1 := H.2.2.1.1
  obtain ⟨T, t1, t2, t3, t4⟩ := XB_sums (L := L) (xs := xs) (d := d) H0 hpd h1 h2
  refine ⟨wr T 72 20 (flt 1 p), ?_, (Bd.fl (by decide) p).of t3⟩
  rw [XB_on H0.2.1.2.1, q_220, m_here H.1 H.2.1.1 (by first | decide | omega), bR, hc, m_times, bR]
  simp only [bi_0]
  rw [if_pos (by decide), m_plus, bR]
  simp only [bi_0]
  rw [if_pos (by decide), if_pos trivial, t1, bR, m_top t2, bR, if_neg h3, t2.2.1.1, m_fails t2.2.1.2.1 (by decide) (by first | decide | omega), bR, bR, if_pos rfl]
theorem sg_not {c : Int} (h : isSg c = true) : isTm c = false ∧ isPm c = false ∧ c ≠ 93 ∧ c ≠ 0 := by
  unfold isSg at h
  have := of_decide_eq_true h
  unfold isTm isPm
  refine ⟨decide_eq_false (by first | decide | omega), decide_eq_false (by first | decide | omega), by omega, by omega⟩
theorem XB_sign (H0 : RZ t n S p cd (pd ++ st)) (hc : isSg (cu t n p) = true) (hpd : ∀ x, x ∈ pd → isTm x = true ∨ isPm x = true) (h1 : isTm (st.headD 0) = false) (h2 : isPm (st.headD 0) = false) : (st.headD 0 ≠ 91 → isSg (st.headD 0) = false → ∃ T, XB L xs d S = XA L xs d T ∧ RZ t n T (p + 1) (cd ++ pdc pd) (cu t n p :: st) ∧ Zf S T) ∧ (st.headD 0 = 91 ∨ isSg (st.headD 0) = true → ∃ T, XB L xs d S = some (0, T) ∧ Bd S T (flt 1 p)) := by
  have H := H0.w35 (b := 0)
  have h200 := H.1.2.2
  have b1 := H.2.2.1.1
  obtain ⟨s1, s2, s3, s4⟩ := sg_not hc
  have hp := cu_pos s4
  obtain ⟨T, t1, t2, t3, t4⟩ := XB_sums (L := L) (xs := xs) (d := d) H0 hpd h1 h2
  have b2 := t2.2.2.1
  obtain ⟨P1, P2⟩ := t2.psh hp (sg_br hc)
  have bad : ∀ {X : AH}, X = wr T 72 20 (flt 1 p) → ∃ T2, bindR (LQ (WK L xs) (ev (WK L xs) (d + 5)) 220 180 [some (vr 72), some (vi (cu t n p))] [] X) (fun r T => if r = 0 then some (0, T) else LQ (WK L xs) (ev (WK L xs) (d + 6)) 217 7 [some (vr 72), some (vi 1)] [] T) = some (0, T2) ∧ Bd S T2 (flt 1 p) := by
    rintro X rfl
    have e24 : (wr T 72 20 (flt 1 p)).2 72 24 = st.length := by rw [wr_f, if_neg (by decide), t2.2.1.2.2.2.2.1]
    have hz : Zf (wr T 72 20 (flt 1 p)) (wr (wr (wr (wr T 72 20 (flt 1 p)) 93 ((wr T 72 20 (flt 1 p)).2 72 24).toNat (cu t n p)) 72 24 (w32 ((wr T 72 20 (flt 1 p)).2 72 24 + 1))) 72 18 (w32 ((wr T 72 20 (flt 1 p)).2 72 18 + 1))) := ((Zf.wA (by first | decide | omega)).tr (Zf.w72 (by first | decide | omega))).tr (Zf.w72 (by first | decide | omega))
    have e20 : (wr (wr (wr (wr T 72 20 (flt 1 p)) 93 ((wr T 72 20 (flt 1 p)).2 72 24).toNat (cu t n p)) 72 24 (w32 ((wr T 72 20 (flt 1 p)).2 72 24 + 1))) 72 18 (w32 ((wr T 72 20 (flt 1 p)).2 72 18 + 1))).2 72 20 = flt 1 p := by rw [wr_f, if_neg (by decide), wr_f, if_neg (by decide), wr_c (by decide), wr_f, if_pos rfl]
    have hn := flt_neg (f := 1) (by decide) p
    refine ⟨_, ?_, (t3.tr (Zf.w72 (by first | decide | omega))).tr hz, e20, hn⟩
    rw [q_220_180, if_pos (by first | decide | omega), bR, if_neg (by decide), X1_bad (by first | decide | omega)]
  have pre : XB L xs d S = bindR (bindR (ev (WK L xs) (d + 5) 224 [vr 72] T) (fun r21 S22 => (if r21 = 91 then (bindR (ev (WK L xs) (d + 5) 210 [vr 72, vi (1 : Int), vi (S22.2 72 18)] S22) (fun r23 S24 => (LQ (WK L xs) (ev (WK L xs) (d + 5)) 220 180 [some (vr 72), some (vi (cu t n p))] [] S24))) else (bindR (ev (WK L xs) (d + 5) 224 [vr 72] S22) (fun r25 S26 => (bindR (ev (WK L xs) (d + 5) 226 [vi r25] S26) (fun r27 S28 => (if r27 = 0 then (LQ (WK L xs) (ev (WK L xs) (d + 5)) 220 180 [some (vr 72), some (vi (cu t n p))] [] S28) else (bindR (ev (WK L xs) (d + 5) 210 [vr 72, vi (1 : Int), vi (S28.2 72 18)] S28) (fun r29 S30 => (LQ (WK L xs) (ev (WK L xs) (d + 5)) 220 180 [some (vr 72), some (vi (cu t n p))] [] S30))))))))))) (fun r T => if r = 0 then some (0, T) else LQ (WK L xs) (ev (WK L xs) (d + 6)) 217 7 [some (vr 72), some (vi 1)] [] T) := by
    rw [XB_on H0.2.1.2.1, q_220, m_here H.1 H.2.1.1 (by first | decide | omega), bR, m_times, bR]
    simp only [bi_0]
    rw [if_pos (nt s1), m_plus, bR]
    simp only [bi_0]
    rw [if_pos (nt s2), if_neg s3, t1, bR, m_sign, bR]
    simp only [bi_0]
    rw [if_neg (fun z => z hc)]
  refine ⟨fun q1 q2 => ⟨_, ?_, P1, t3.tr P2⟩, fun q => ?_⟩
  · rw [pre, m_top t2, bR, if_neg q1, m_top t2, bR, m_sign, bR]
    simp only [bi_0]
    rw [if_pos (nt q2), q_220_180, t2.2.1.2.2.2.2.1, if_pos (by first | decide | omega), t2.2.1.1, Int.toNat_natCast, w32e (x := (st.length : Int) + 1) (by first | decide | omega) (by first | decide | omega), w32e (x := (p : Int) + 1) (by first | decide | omega) (by first | decide | omega), bR, if_neg (by decide), X1_A]
    rw [wr_f, if_neg (by decide), wr_f, if_neg (by decide), wr_c (by decide), t4]
  · rw [pre, m_top t2, bR]
    by_cases q1 : st.headD 0 = 91
    · rw [if_pos q1, t2.2.1.1, m_fails t2.2.1.2.1 (by decide) (by first | decide | omega), bR]
      exact bad rfl
    · rw [if_neg q1, m_top t2, bR, m_sign, bR]
      simp only [bi_0]
      rw [if_neg (fun z => z (q.resolve_left q1)), t2.2.1.1, m_fails t2.2.1.2.1 (by decide) (by first | decide | omega), bR]
      exact bad rfl
theorem XB_end (H0 : RZ t n S p cd (pd ++ st)) (s1 : isTm (cu t n p) = false) (s2 : isPm (cu t n p) = false) (s3 : cu t n p ≠ 93) (s4 : isSg (cu t n p) = false) (hpd : ∀ x, x ∈ pd → isTm x = true ∨ isPm x = true) (h1 : isTm (st.headD 0) = false) (h2 : isPm (st.headD 0) = false) : (isSg (st.headD 0) = false → ∃ T, XB L xs d S = some (0, T) ∧ Bd S T (flt 1 p)) ∧ (∀ (c : Int) (s : List Int), st = c :: s → isSg c = true → ∃ T, XB L xs d S = some (0, T) ∧ RZ t n T p (cd ++ pdc pd ++ [(c, 0)]) s ∧ Zf S T) := by
  have H := H0.w35 (b := 0)
  have h200 := H.1.2.2
  have b1 := H.2.2.1.1
  obtain ⟨T, t1, t2, t3, t4⟩ := XB_sums (L := L) (xs := xs) (d := d) H0 hpd h1 h2
  have b2 := t2.2.2.1
  have pre : XB L xs d S = bindR (bindR (ev (WK L xs) (d + 5) 226 [vi (st.headD 0)] T) (fun r13 S14 => (if r13 = 0 then (bindR (ev (WK L xs) (d + 5) 210 [vr 72, vi (1 : Int), vi (S14.2 72 18)] S14) (fun r15 S16 => (some ((0 : Int), S16)))) else (bindR (ev (WK L xs) (d + 5) 224 [vr 72] S14) (fun r17 S18 => (bindR (ev (WK L xs) (d + 5) 216 [vr 72, vi r17, vi (0 : Int)] S18) (fun r19 S20 => (some ((0 : Int), (wr S20 72 24 (w32 ((S20.2 72 24) - (1 : Int))))))))))))) (fun r T => if r = 0 then some (0, T) else LQ (WK L xs) (ev (WK L xs) (d + 6)) 217 7 [some (vr 72), some (vi 1)] [] T) := by
    rw [XB_on H0.2.1.2.1, q_220, m_here H.1 H.2.1.1 (by first | decide | omega), bR, m_times, bR]
    simp only [bi_0]
    rw [if_pos (nt s1), m_plus, bR]
    simp only [bi_0]
    rw [if_pos (nt s2), if_neg s3, t1, bR, m_sign, bR]
    simp only [bi_0]
    rw [if_pos (nt s4), m_top t2, bR]
  refine ⟨fun q => ⟨wr T 72 20 (flt 1 p), ?_, (Bd.fl (by decide) p).of t3⟩, fun c s e q => ?_⟩
  · rw [pre, m_sign, bR]
    simp only [bi_0]
    rw [if_pos (nt q), t2.2.1.1, m_fails t2.2.1.2.1 (by decide) (by first | decide | omega), bR, bR, if_pos rfl]
  · subst e
    obtain ⟨P1, P2⟩ := t2.pop (sg_br q) c
    refine ⟨_, ?_, P1, t3.tr P2⟩
    rw [pre, show (c :: s).headD 0 = c from rfl, m_sign, bR]
    simp only [bi_0]
    rw [if_neg (fun z => z q), show ev (WK L xs) (d + 5) 224 [vr 72] T = some (c, T) from m_top t2, bR, m_emit t2.2.1.2.1 t2.2.1.2.2.1 (by first | decide | omega), bR, bR, if_pos rfl]
end
